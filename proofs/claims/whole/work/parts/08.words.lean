theorem gm_t1 {w : Cond} {i : Nat} (hi : tables_1_1[i]? = some w) (hg : goodWord w = true) : w ∈ gm_TB := by
  have h := List.mem_of_getElem? hi
  exact gm_in (List.mem_append_right _ (List.mem_append_left _ h)) hg
theorem gm_n1 {w : Cond} {i : Nat} (hi : tables_1_1[i]? = some w) (hg : gm_isNest w = true) : w ∈ gm_NW := by
  have h := List.mem_of_getElem? hi
  exact List.mem_filter.mpr ⟨List.mem_append_left _ h, hg⟩
theorem gm_t2 {w : Cond} {i : Nat} (hi : tables_1_2[i]? = some w) (hg : goodWord w = true) : w ∈ gm_TB := by
  have h := List.mem_of_getElem? hi
  exact gm_in (List.mem_append_right _ (List.mem_append_right _ (List.mem_append_left _ h))) hg
theorem gm_n2 {w : Cond} {i : Nat} (hi : tables_1_2[i]? = some w) (hg : gm_isNest w = true) : w ∈ gm_NW := by
  have h := List.mem_of_getElem? hi
  exact List.mem_filter.mpr ⟨List.mem_append_right _ (List.mem_append_left _ h), hg⟩
theorem gm_t3 {w : Cond} {i : Nat} (hi : tables_1_3[i]? = some w) (hg : goodWord w = true) : w ∈ gm_TB := by
  have h := List.mem_of_getElem? hi
  exact gm_in (List.mem_append_right _ (List.mem_append_right _ (List.mem_append_right _ (List.mem_append_left _ h)))) hg
theorem gm_n3 {w : Cond} {i : Nat} (hi : tables_1_3[i]? = some w) (hg : gm_isNest w = true) : w ∈ gm_NW := by
  have h := List.mem_of_getElem? hi
  exact List.mem_filter.mpr ⟨List.mem_append_right _ (List.mem_append_right _ (List.mem_append_left _ h)), hg⟩
theorem gm_t4 {w : Cond} {i : Nat} (hi : tables_1_4[i]? = some w) (hg : goodWord w = true) : w ∈ gm_TB := by
  have h := List.mem_of_getElem? hi
  exact gm_in (List.mem_append_right _ (List.mem_append_right _ (List.mem_append_right _ (List.mem_append_right _ (List.mem_append_left _ h))))) hg
theorem gm_n4 {w : Cond} {i : Nat} (hi : tables_1_4[i]? = some w) (hg : gm_isNest w = true) : w ∈ gm_NW := by
  have h := List.mem_of_getElem? hi
  exact List.mem_filter.mpr ⟨List.mem_append_right _ (List.mem_append_right _ (List.mem_append_right _ (List.mem_append_left _ h))), hg⟩
theorem gm_t5 {w : Cond} {i : Nat} (hi : tables_1_5[i]? = some w) (hg : goodWord w = true) : w ∈ gm_TB := by
  have h := List.mem_of_getElem? hi
  exact gm_in (List.mem_append_right _ (List.mem_append_right _ (List.mem_append_right _ (List.mem_append_right _ (List.mem_append_right _ (List.mem_append_left _ h)))))) hg
theorem gm_n5 {w : Cond} {i : Nat} (hi : tables_1_5[i]? = some w) (hg : gm_isNest w = true) : w ∈ gm_NW := by
  have h := List.mem_of_getElem? hi
  exact List.mem_filter.mpr ⟨List.mem_append_right _ (List.mem_append_right _ (List.mem_append_right _ (List.mem_append_right _ (List.mem_append_left _ h)))), hg⟩
theorem gm_t6 {w : Cond} {i : Nat} (hi : tables_1_6[i]? = some w) (hg : goodWord w = true) : w ∈ gm_TB := by
  have h := List.mem_of_getElem? hi
  exact gm_in (List.mem_append_right _ (List.mem_append_right _ (List.mem_append_right _ (List.mem_append_right _ (List.mem_append_right _ (List.mem_append_right _ (List.mem_append_left _ h))))))) hg
theorem gm_n6 {w : Cond} {i : Nat} (hi : tables_1_6[i]? = some w) (hg : gm_isNest w = true) : w ∈ gm_NW := by
  have h := List.mem_of_getElem? hi
  exact List.mem_filter.mpr ⟨List.mem_append_right _ (List.mem_append_right _ (List.mem_append_right _ (List.mem_append_right _ (List.mem_append_right _ (List.mem_append_left _ h))))), hg⟩
theorem gm_t7 {w : Cond} {i : Nat} (hi : tables_1_7[i]? = some w) (hg : goodWord w = true) : w ∈ gm_TB := by
  have h := List.mem_of_getElem? hi
  exact gm_in (List.mem_append_right _ (List.mem_append_right _ (List.mem_append_right _ (List.mem_append_right _ (List.mem_append_right _ (List.mem_append_right _ (List.mem_append_right _ (h)))))))) hg
theorem gm_n7 {w : Cond} {i : Nat} (hi : tables_1_7[i]? = some w) (hg : gm_isNest w = true) : w ∈ gm_NW := by
  have h := List.mem_of_getElem? hi
  exact List.mem_filter.mpr ⟨List.mem_append_right _ (List.mem_append_right _ (List.mem_append_right _ (List.mem_append_right _ (List.mem_append_right _ (List.mem_append_right _ (h)))))), hg⟩
theorem gm_pv {w : Cond} {i : Nat} (hi : (k2_sels lw_privs)[i]? = some w) (hg : goodWord w = true) : w ∈ gm_TB := gm_in (List.mem_append_left _ (List.mem_of_getElem? hi)) hg
set_option maxRecDepth 100000 in
theorem fl_X10_9 : gm_FL RX10 9 10 0 2 := ⟨by decide, by decide, gm_t2 (i := 92) rfl rfl, rfl⟩
set_option maxRecDepth 100000 in
theorem fl_X10_16 : gm_FL RX10 16 10 3 2 := ⟨by decide, by decide, gm_t2 (i := 95) rfl rfl, rfl⟩
set_option maxRecDepth 100000 in
theorem fl_X10_23 : gm_FL RX10 23 10 4 2 := ⟨by decide, by decide, gm_t2 (i := 96) rfl rfl, rfl⟩
set_option maxRecDepth 100000 in
theorem fl_X10_30 : gm_FL RX10 30 10 6 2 := ⟨by decide, by decide, gm_t2 (i := 98) rfl rfl, rfl⟩
set_option maxRecDepth 100000 in
theorem fl_X10_37 : gm_FL RX10 37 10 7 2 := ⟨by decide, by decide, gm_t2 (i := 99) rfl rfl, rfl⟩
set_option maxRecDepth 100000 in
theorem fl_X10_44 : gm_FL RX10 44 10 10 2 := ⟨by decide, by decide, gm_t2 (i := 102) rfl rfl, rfl⟩
set_option maxRecDepth 100000 in
theorem fl_X10_50 : gm_FL RX10 50 10 11 2 := ⟨by decide, by decide, gm_t2 (i := 103) rfl rfl, rfl⟩
set_option maxRecDepth 100000 in
theorem fl_X10_56 : gm_FL RX10 56 10 12 2 := ⟨by decide, by decide, gm_t2 (i := 104) rfl rfl, rfl⟩
set_option maxRecDepth 100000 in
theorem fl_X10_65 : gm_FL RX10 65 10 2 2 := ⟨by decide, by decide, gm_t2 (i := 94) rfl rfl, rfl⟩
set_option maxRecDepth 100000 in
theorem fl_X10_68 : gm_FL RX10 68 10 5 2 := ⟨by decide, by decide, gm_t2 (i := 97) rfl rfl, rfl⟩
set_option maxRecDepth 100000 in
theorem fl_X10_71 : gm_FL RX10 71 10 8 2 := ⟨by decide, by decide, gm_t2 (i := 100) rfl rfl, rfl⟩
set_option maxRecDepth 100000 in
theorem fl_X10_80 : gm_FL RX10 80 10 9 2 := ⟨by decide, by decide, gm_t2 (i := 101) rfl rfl, rfl⟩
set_option maxRecDepth 100000 in
theorem fl_X10_86 : gm_FL RX10 86 10 1 0 := ⟨by decide, by decide, gm_t2 (i := 93) rfl rfl, rfl⟩
set_option maxRecDepth 100000 in
theorem fl_X10_98 : gm_FL RX10 98 5 0 0 := ⟨by decide, by decide, gm_t1 (i := 119) rfl rfl, rfl⟩
set_option maxRecDepth 100000 in
theorem fl_X10_108 : gm_FL RX10 108 1 13 0 := ⟨by decide, by decide, gm_t1 (i := 80) rfl rfl, rfl⟩
set_option maxRecDepth 100000 in
theorem fl_X10_111 : gm_FL RX10 111 5 1 0 := ⟨by decide, by decide, gm_t1 (i := 121) rfl rfl, rfl⟩
set_option maxRecDepth 100000 in
theorem fl_X10_118 : gm_FL RX10 118 1 6 2 := ⟨by decide, by decide, gm_t1 (i := 53) rfl rfl, rfl⟩
set_option maxRecDepth 100000 in
theorem fl_X10_122 : gm_FL RX10 122 1 7 2 := ⟨by decide, by decide, gm_t1 (i := 58) rfl rfl, rfl⟩
set_option maxRecDepth 100000 in
theorem fl_X10_125 : gm_FL RX10 125 1 8 2 := ⟨by decide, by decide, gm_t1 (i := 63) rfl rfl, rfl⟩
set_option maxRecDepth 100000 in
theorem fl_X10_148 : gm_FL RX10 148 1 12 0 := ⟨by decide, by decide, gm_t1 (i := 77) rfl rfl, rfl⟩
set_option maxRecDepth 100000 in
theorem fl_X10_154 : gm_FL RX10 154 8 2 0 := ⟨by decide, by decide, gm_t1 (i := 162) rfl rfl, rfl⟩
set_option maxRecDepth 100000 in
theorem fl_X10_162 : gm_FL RX10 162 8 0 2 := ⟨by decide, by decide, gm_t1 (i := 156) rfl rfl, rfl⟩
set_option maxRecDepth 100000 in
theorem fl_X10_165 : gm_FL RX10 165 8 1 2 := ⟨by decide, by decide, gm_t1 (i := 159) rfl rfl, rfl⟩
set_option maxRecDepth 100000 in
theorem fl_X10_168 : gm_FL RX10 168 1 9 0 := ⟨by decide, by decide, gm_t1 (i := 67) rfl rfl, rfl⟩
set_option maxRecDepth 100000 in
theorem fl_X10_198 : gm_FL RX10 198 6 1 0 := ⟨by decide, by decide, gm_t2 (i := 62) rfl rfl, rfl⟩
set_option maxRecDepth 100000 in
theorem fl_X10_199 : gm_FL RX10 199 6 0 2 := ⟨by decide, by decide, gm_t2 (i := 60) rfl rfl, rfl⟩
set_option maxRecDepth 100000 in
theorem fl_X10_220 : gm_FL RX10 220 1 5 0 := ⟨by decide, by decide, gm_t1 (i := 50) rfl rfl, rfl⟩
set_option maxRecDepth 100000 in
theorem fl_X10_252 : gm_FL RX10 252 4 0 0 := ⟨by decide, by decide, gm_t1 (i := 224) rfl rfl, rfl⟩
set_option maxRecDepth 100000 in
theorem fl_X10_255 : gm_FL RX10 255 4 1 0 := ⟨by decide, by decide, gm_t1 (i := 228) rfl rfl, rfl⟩
set_option maxRecDepth 100000 in
theorem fl_X10_296 : gm_FL RX10 296 1 0 0 := ⟨by decide, by decide, gm_t1 (i := 36) rfl rfl, rfl⟩
set_option maxRecDepth 100000 in
theorem fl_X10_299 : gm_FL RX10 299 1 1 0 := ⟨by decide, by decide, gm_t1 (i := 40) rfl rfl, rfl⟩
set_option maxRecDepth 100000 in
theorem fl_X10_325 : gm_FL RX10 325 9 0 2 := ⟨by decide, by decide, gm_t2 (i := 44) rfl rfl, rfl⟩
set_option maxRecDepth 100000 in
theorem fl_X10_336 : gm_FL RX10 336 7 10 1 := ⟨by decide, by decide, gm_t2 (i := 11) rfl rfl, rfl⟩
set_option maxRecDepth 100000 in
theorem fl_X10_340 : gm_FL RX10 340 7 8 0 := ⟨by decide, by decide, gm_t2 (i := 7) rfl rfl, rfl⟩
set_option maxRecDepth 100000 in
theorem fl_X10_343 : gm_FL RX10 343 7 9 0 := ⟨by decide, by decide, gm_t2 (i := 9) rfl rfl, rfl⟩
set_option maxRecDepth 100000 in
theorem fl_X10_350 : gm_FL RX10 350 1 11 0 := ⟨by decide, by decide, gm_t1 (i := 73) rfl rfl, rfl⟩
set_option maxRecDepth 100000 in
theorem fl_X10_353 : gm_FL RX10 353 1 10 0 := ⟨by decide, by decide, gm_t1 (i := 70) rfl rfl, rfl⟩
set_option maxRecDepth 100000 in
theorem fl_X10_365 : gm_FL RX10 365 3 0 1 := ⟨by decide, by decide, gm_t1 (i := 188) rfl rfl, rfl⟩
set_option maxRecDepth 100000 in
theorem fl_X10_393 : gm_FL RX10 393 2 0 2 := ⟨by decide, by decide, gm_t2 (i := 81) rfl rfl, rfl⟩
set_option maxRecDepth 100000 in
theorem fl_X10_394 : gm_FL RX10 394 2 1 2 := ⟨by decide, by decide, gm_t2 (i := 83) rfl rfl, rfl⟩
set_option maxRecDepth 100000 in
theorem fl_X10_398 : gm_FL RX10 398 2 2 0 := ⟨by decide, by decide, gm_t2 (i := 84) rfl rfl, rfl⟩
set_option maxRecDepth 100000 in
theorem fl_X0_9 : gm_FL RX0 9 0 0 0 := ⟨by decide, by decide, gm_t1 (i := 177) rfl rfl, rfl⟩
set_option maxRecDepth 100000 in
theorem fl_X0_16 : gm_FL RX0 16 1 5 0 := ⟨by decide, by decide, gm_t1 (i := 48) rfl rfl, rfl⟩
set_option maxRecDepth 100000 in
theorem fl_X0_25 : gm_FL RX0 25 8 2 0 := ⟨by decide, by decide, gm_t1 (i := 161) rfl rfl, rfl⟩
set_option maxRecDepth 100000 in
theorem fl_X0_46 : gm_FL RX0 46 1 8 2 := ⟨by decide, by decide, gm_t1 (i := 61) rfl rfl, rfl⟩
set_option maxRecDepth 100000 in
theorem fl_X0_50 : gm_FL RX0 50 1 7 2 := ⟨by decide, by decide, gm_t1 (i := 56) rfl rfl, rfl⟩
set_option maxRecDepth 100000 in
theorem fl_X0_53 : gm_FL RX0 53 1 12 0 := ⟨by decide, by decide, gm_t1 (i := 76) rfl rfl, rfl⟩
set_option maxRecDepth 100000 in
theorem fl_X1_9 : gm_FL RX1 9 1 0 0 := ⟨by decide, by decide, gm_t1 (i := 33) rfl rfl, rfl⟩
set_option maxRecDepth 100000 in
theorem fl_X1_15 : gm_FL RX1 15 1 1 0 := ⟨by decide, by decide, gm_t1 (i := 37) rfl rfl, rfl⟩
set_option maxRecDepth 100000 in
theorem fl_X1_18 : gm_FL RX1 18 1 6 2 := ⟨by decide, by decide, gm_t1 (i := 51) rfl rfl, rfl⟩
set_option maxRecDepth 100000 in
theorem fl_X1_22 : gm_FL RX1 22 1 7 2 := ⟨by decide, by decide, gm_t1 (i := 54) rfl rfl, rfl⟩
set_option maxRecDepth 100000 in
theorem fl_X1_25 : gm_FL RX1 25 1 8 2 := ⟨by decide, by decide, gm_t1 (i := 59) rfl rfl, rfl⟩
set_option maxRecDepth 100000 in
theorem fl_X1_28 : gm_FL RX1 28 1 10 0 := ⟨by decide, by decide, gm_t1 (i := 68) rfl rfl, rfl⟩
set_option maxRecDepth 100000 in
theorem fl_X1_31 : gm_FL RX1 31 1 11 0 := ⟨by decide, by decide, gm_t1 (i := 71) rfl rfl, rfl⟩
set_option maxRecDepth 100000 in
theorem fl_X1_34 : gm_FL RX1 34 1 2 0 := ⟨by decide, by decide, gm_t1 (i := 41) rfl rfl, rfl⟩
set_option maxRecDepth 100000 in
theorem fl_X1_38 : gm_FL RX1 38 1 3 0 := ⟨by decide, by decide, gm_t1 (i := 43) rfl rfl, rfl⟩
set_option maxRecDepth 100000 in
theorem fl_X1_41 : gm_FL RX1 41 1 4 0 := ⟨by decide, by decide, gm_t1 (i := 45) rfl rfl, rfl⟩
set_option maxRecDepth 100000 in
theorem fl_X1_44 : gm_FL RX1 44 1 5 0 := ⟨by decide, by decide, gm_t1 (i := 47) rfl rfl, rfl⟩
set_option maxRecDepth 100000 in
theorem fl_X1_47 : gm_FL RX1 47 1 9 0 := ⟨by decide, by decide, gm_t1 (i := 64) rfl rfl, rfl⟩
set_option maxRecDepth 100000 in
theorem fl_X1_50 : gm_FL RX1 50 1 12 0 := ⟨by decide, by decide, gm_t1 (i := 74) rfl rfl, rfl⟩
set_option maxRecDepth 100000 in
theorem fl_X1_53 : gm_FL RX1 53 1 13 0 := ⟨by decide, by decide, gm_t1 (i := 78) rfl rfl, rfl⟩
set_option maxRecDepth 100000 in
theorem fl_X2_10 : gm_FL RX2 10 2 0 2 := ⟨by decide, by decide, gm_t2 (i := 80) rfl rfl, rfl⟩
set_option maxRecDepth 100000 in
theorem fl_X2_19 : gm_FL RX2 19 2 1 2 := ⟨by decide, by decide, gm_t2 (i := 82) rfl rfl, rfl⟩
set_option maxRecDepth 100000 in
theorem fl_X3_11 : gm_FL RX3 11 3 3 2 := ⟨by decide, by decide, gm_t1 (i := 191) rfl rfl, rfl⟩
set_option maxRecDepth 100000 in
theorem fl_X3_15 : gm_FL RX3 15 3 4 2 := ⟨by decide, by decide, gm_t1 (i := 192) rfl rfl, rfl⟩
set_option maxRecDepth 100000 in
theorem fl_X3_27 : gm_FL RX3 27 3 1 0 := ⟨by decide, by decide, gm_t1 (i := 189) rfl rfl, rfl⟩
set_option maxRecDepth 100000 in
theorem fl_X3_31 : gm_FL RX3 31 3 2 0 := ⟨by decide, by decide, gm_t1 (i := 190) rfl rfl, rfl⟩
set_option maxRecDepth 100000 in
theorem fl_X3_34 : gm_FL RX3 34 3 0 1 := ⟨by decide, by decide, gm_t1 (i := 187) rfl rfl, rfl⟩
set_option maxRecDepth 100000 in
theorem fl_X4_7 : gm_FL RX4 7 4 2 0 := ⟨by decide, by decide, gm_t1 (i := 229) rfl rfl, rfl⟩
set_option maxRecDepth 100000 in
theorem fl_X4_13 : gm_FL RX4 13 4 0 0 := ⟨by decide, by decide, gm_t1 (i := 221) rfl rfl, rfl⟩
set_option maxRecDepth 100000 in
theorem fl_X4_16 : gm_FL RX4 16 4 1 0 := ⟨by decide, by decide, gm_t1 (i := 225) rfl rfl, rfl⟩
set_option maxRecDepth 100000 in
theorem fl_X5_9 : gm_FL RX5 9 5 1 0 := ⟨by decide, by decide, gm_t1 (i := 120) rfl rfl, rfl⟩
set_option maxRecDepth 100000 in
theorem fl_X5_15 : gm_FL RX5 15 5 2 2 := ⟨by decide, by decide, gm_t1 (i := 122) rfl rfl, rfl⟩
set_option maxRecDepth 100000 in
theorem fl_X5_25 : gm_FL RX5 25 5 3 0 := ⟨by decide, by decide, gm_t1 (i := 123) rfl rfl, rfl⟩
set_option maxRecDepth 100000 in
theorem fl_X5_28 : gm_FL RX5 28 5 6 0 := ⟨by decide, by decide, gm_t1 (i := 126) rfl rfl, rfl⟩
set_option maxRecDepth 100000 in
theorem fl_X5_31 : gm_FL RX5 31 5 0 0 := ⟨by decide, by decide, gm_t1 (i := 118) rfl rfl, rfl⟩
set_option maxRecDepth 100000 in
theorem fl_X5_42 : gm_FL RX5 42 5 4 0 := ⟨by decide, by decide, gm_t1 (i := 124) rfl rfl, rfl⟩
set_option maxRecDepth 100000 in
theorem fl_X5_53 : gm_FL RX5 53 1 13 0 := ⟨by decide, by decide, gm_t1 (i := 79) rfl rfl, rfl⟩
set_option maxRecDepth 100000 in
theorem fl_X5_80 : gm_FL RX5 80 1 9 0 := ⟨by decide, by decide, gm_t1 (i := 65) rfl rfl, rfl⟩
set_option maxRecDepth 100000 in
theorem fl_X5_89 : gm_FL RX5 89 5 8 0 := ⟨by decide, by decide, gm_t1 (i := 128) rfl rfl, rfl⟩
set_option maxRecDepth 100000 in
theorem fl_X5_92 : gm_FL RX5 92 1 10 0 := ⟨by decide, by decide, gm_t1 (i := 69) rfl rfl, rfl⟩
set_option maxRecDepth 100000 in
theorem fl_X5_96 : gm_FL RX5 96 1 11 0 := ⟨by decide, by decide, gm_t1 (i := 72) rfl rfl, rfl⟩
set_option maxRecDepth 100000 in
theorem fl_X5_100 : gm_FL RX5 100 1 12 0 := ⟨by decide, by decide, gm_t1 (i := 75) rfl rfl, rfl⟩
set_option maxRecDepth 100000 in
theorem fl_X5_107 : gm_FL RX5 107 1 0 0 := ⟨by decide, by decide, gm_t1 (i := 35) rfl rfl, rfl⟩
set_option maxRecDepth 100000 in
theorem fl_X5_110 : gm_FL RX5 110 1 1 0 := ⟨by decide, by decide, gm_t1 (i := 38) rfl rfl, rfl⟩
set_option maxRecDepth 100000 in
theorem fl_X5_113 : gm_FL RX5 113 1 3 0 := ⟨by decide, by decide, gm_t1 (i := 44) rfl rfl, rfl⟩
set_option maxRecDepth 100000 in
theorem fl_X5_116 : gm_FL RX5 116 1 4 0 := ⟨by decide, by decide, gm_t1 (i := 46) rfl rfl, rfl⟩
set_option maxRecDepth 100000 in
theorem fl_X5_119 : gm_FL RX5 119 1 2 0 := ⟨by decide, by decide, gm_t1 (i := 42) rfl rfl, rfl⟩
set_option maxRecDepth 100000 in
theorem fl_X5_122 : gm_FL RX5 122 1 5 0 := ⟨by decide, by decide, gm_t1 (i := 49) rfl rfl, rfl⟩
set_option maxRecDepth 100000 in
theorem fl_X5_125 : gm_FL RX5 125 1 6 2 := ⟨by decide, by decide, gm_t1 (i := 52) rfl rfl, rfl⟩
set_option maxRecDepth 100000 in
theorem fl_X5_129 : gm_FL RX5 129 1 7 2 := ⟨by decide, by decide, gm_t1 (i := 57) rfl rfl, rfl⟩
set_option maxRecDepth 100000 in
theorem fl_X5_132 : gm_FL RX5 132 1 8 2 := ⟨by decide, by decide, gm_t1 (i := 62) rfl rfl, rfl⟩
set_option maxRecDepth 100000 in
theorem fl_X5_137 : gm_FL RX5 137 5 7 0 := ⟨by decide, by decide, gm_t1 (i := 127) rfl rfl, rfl⟩
set_option maxRecDepth 100000 in
theorem fl_X5_140 : gm_FL RX5 140 5 5 0 := ⟨by decide, by decide, gm_t1 (i := 125) rfl rfl, rfl⟩
set_option maxRecDepth 100000 in
theorem fl_X6_9 : gm_FL RX6 9 6 0 2 := ⟨by decide, by decide, gm_t2 (i := 59) rfl rfl, rfl⟩
set_option maxRecDepth 100000 in
theorem fl_X6_15 : gm_FL RX6 15 6 1 0 := ⟨by decide, by decide, gm_t2 (i := 61) rfl rfl, rfl⟩
set_option maxRecDepth 100000 in
theorem fl_X6_19 : gm_FL RX6 19 6 2 0 := ⟨by decide, by decide, gm_t2 (i := 63) rfl rfl, rfl⟩
set_option maxRecDepth 100000 in
theorem fl_X7_12 : gm_FL RX7 12 7 2 2 := ⟨by decide, by decide, gm_t1 (i := 239) rfl rfl, rfl⟩
set_option maxRecDepth 100000 in
theorem fl_X7_18 : gm_FL RX7 18 7 3 2 := ⟨by decide, by decide, gm_t2 (i := 0) rfl rfl, rfl⟩
set_option maxRecDepth 100000 in
theorem fl_X7_22 : gm_FL RX7 22 7 4 2 := ⟨by decide, by decide, gm_t2 (i := 1) rfl rfl, rfl⟩
set_option maxRecDepth 100000 in
theorem fl_X7_26 : gm_FL RX7 26 7 5 2 := ⟨by decide, by decide, gm_t2 (i := 2) rfl rfl, rfl⟩
set_option maxRecDepth 100000 in
theorem fl_X7_29 : gm_FL RX7 29 7 6 2 := ⟨by decide, by decide, gm_t2 (i := 3) rfl rfl, rfl⟩
set_option maxRecDepth 100000 in
theorem fl_X7_32 : gm_FL RX7 32 7 0 2 := ⟨by decide, by decide, gm_t1 (i := 237) rfl rfl, rfl⟩
set_option maxRecDepth 100000 in
theorem fl_X7_36 : gm_FL RX7 36 7 1 2 := ⟨by decide, by decide, gm_t1 (i := 238) rfl rfl, rfl⟩
set_option maxRecDepth 100000 in
theorem fl_X7_40 : gm_FL RX7 40 1 0 0 := ⟨by decide, by decide, gm_t1 (i := 34) rfl rfl, rfl⟩
set_option maxRecDepth 100000 in
theorem fl_X7_64 : gm_FL RX7 64 8 1 2 := ⟨by decide, by decide, gm_t1 (i := 158) rfl rfl, rfl⟩
set_option maxRecDepth 100000 in
theorem fl_X7_68 : gm_FL RX7 68 8 0 2 := ⟨by decide, by decide, gm_t1 (i := 155) rfl rfl, rfl⟩
set_option maxRecDepth 100000 in
theorem fl_X7_71 : gm_FL RX7 71 1 9 0 := ⟨by decide, by decide, gm_t1 (i := 66) rfl rfl, rfl⟩
set_option maxRecDepth 100000 in
theorem fl_X7_79 : gm_FL RX7 79 1 8 2 := ⟨by decide, by decide, gm_t1 (i := 60) rfl rfl, rfl⟩
set_option maxRecDepth 100000 in
theorem fl_X7_82 : gm_FL RX7 82 1 7 2 := ⟨by decide, by decide, gm_t1 (i := 55) rfl rfl, rfl⟩
set_option maxRecDepth 100000 in
theorem fl_X7_96 : gm_FL RX7 96 1 1 0 := ⟨by decide, by decide, gm_t1 (i := 39) rfl rfl, rfl⟩
set_option maxRecDepth 100000 in
theorem fl_X7_105 : gm_FL RX7 105 7 7 0 := ⟨by decide, by decide, gm_t2 (i := 5) rfl rfl, rfl⟩
set_option maxRecDepth 100000 in
theorem fl_X7_130 : gm_FL RX7 130 8 2 0 := ⟨by decide, by decide, gm_t1 (i := 163) rfl rfl, rfl⟩
set_option maxRecDepth 100000 in
theorem fl_X7_139 : gm_FL RX7 139 4 0 0 := ⟨by decide, by decide, gm_t1 (i := 223) rfl rfl, rfl⟩
set_option maxRecDepth 100000 in
theorem fl_X7_142 : gm_FL RX7 142 4 1 0 := ⟨by decide, by decide, gm_t1 (i := 227) rfl rfl, rfl⟩
set_option maxRecDepth 100000 in
theorem fl_X7_150 : gm_FL RX7 150 7 10 1 := ⟨by decide, by decide, gm_t2 (i := 10) rfl rfl, rfl⟩
set_option maxRecDepth 100000 in
theorem fl_X7_158 : gm_FL RX7 158 7 8 0 := ⟨by decide, by decide, gm_t2 (i := 6) rfl rfl, rfl⟩
set_option maxRecDepth 100000 in
theorem fl_X7_161 : gm_FL RX7 161 7 9 0 := ⟨by decide, by decide, gm_t2 (i := 8) rfl rfl, rfl⟩
set_option maxRecDepth 100000 in
theorem fl_X8_9 : gm_FL RX8 9 8 0 2 := ⟨by decide, by decide, gm_t1 (i := 154) rfl rfl, rfl⟩
set_option maxRecDepth 100000 in
theorem fl_X8_15 : gm_FL RX8 15 8 1 2 := ⟨by decide, by decide, gm_t1 (i := 157) rfl rfl, rfl⟩
set_option maxRecDepth 100000 in
theorem fl_X8_24 : gm_FL RX8 24 8 2 0 := ⟨by decide, by decide, gm_t1 (i := 160) rfl rfl, rfl⟩
set_option maxRecDepth 100000 in
theorem fl_X9_9 : gm_FL RX9 9 9 0 2 := ⟨by decide, by decide, gm_t2 (i := 43) rfl rfl, rfl⟩
set_option maxRecDepth 100000 in
theorem fl_X9_17 : gm_FL RX9 17 9 1 2 := ⟨by decide, by decide, gm_t2 (i := 45) rfl rfl, rfl⟩
set_option maxRecDepth 100000 in
theorem fl_X9_20 : gm_FL RX9 20 9 2 2 := ⟨by decide, by decide, gm_t2 (i := 46) rfl rfl, rfl⟩
set_option maxRecDepth 100000 in
theorem fl_X9_30 : gm_FL RX9 30 7 7 0 := ⟨by decide, by decide, gm_t2 (i := 4) rfl rfl, rfl⟩
set_option maxRecDepth 100000 in
theorem fl_X9_67 : gm_FL RX9 67 4 0 0 := ⟨by decide, by decide, gm_t1 (i := 222) rfl rfl, rfl⟩
set_option maxRecDepth 100000 in
theorem fl_X9_70 : gm_FL RX9 70 4 1 0 := ⟨by decide, by decide, gm_t1 (i := 226) rfl rfl, rfl⟩
set_option maxRecDepth 100000 in
theorem fl_X11_1 : gm_FL RX11 1 11 0 0 := ⟨by decide, by decide, gm_t5 (i := 65) rfl rfl, rfl⟩
set_option maxRecDepth 100000 in
theorem fl_X11_13 : gm_FL RX11 13 11 1 2 := ⟨by decide, by decide, gm_t5 (i := 66) rfl rfl, rfl⟩
set_option maxRecDepth 100000 in
theorem fl_X11_17 : gm_FL RX11 17 11 2 2 := ⟨by decide, by decide, gm_t5 (i := 67) rfl rfl, rfl⟩
set_option maxRecDepth 100000 in
theorem fl_X11_21 : gm_FL RX11 21 11 3 2 := ⟨by decide, by decide, gm_t5 (i := 68) rfl rfl, rfl⟩
set_option maxRecDepth 100000 in
theorem fl_X11_24 : gm_FL RX11 24 11 4 2 := ⟨by decide, by decide, gm_t5 (i := 69) rfl rfl, rfl⟩
set_option maxRecDepth 100000 in
theorem fl_X11_27 : gm_FL RX11 27 11 14 0 := ⟨by decide, by decide, gm_t5 (i := 79) rfl rfl, rfl⟩
set_option maxRecDepth 100000 in
theorem fl_X11_30 : gm_FL RX11 30 11 15 2 := ⟨by decide, by decide, gm_t5 (i := 80) rfl rfl, rfl⟩
set_option maxRecDepth 100000 in
theorem fl_X11_33 : gm_FL RX11 33 11 18 2 := ⟨by decide, by decide, gm_t5 (i := 83) rfl rfl, rfl⟩
set_option maxRecDepth 100000 in
theorem fl_X11_37 : gm_FL RX11 37 11 20 2 := ⟨by decide, by decide, gm_t5 (i := 85) rfl rfl, rfl⟩
set_option maxRecDepth 100000 in
theorem fl_X11_40 : gm_FL RX11 40 11 25 2 := ⟨by decide, by decide, gm_t5 (i := 90) rfl rfl, rfl⟩
set_option maxRecDepth 100000 in
theorem fl_X11_43 : gm_FL RX11 43 11 26 2 := ⟨by decide, by decide, gm_t5 (i := 91) rfl rfl, rfl⟩
set_option maxRecDepth 100000 in
theorem fl_X11_46 : gm_FL RX11 46 11 27 2 := ⟨by decide, by decide, gm_t5 (i := 92) rfl rfl, rfl⟩
set_option maxRecDepth 100000 in
theorem fl_X11_49 : gm_FL RX11 49 11 28 2 := ⟨by decide, by decide, gm_t5 (i := 93) rfl rfl, rfl⟩
set_option maxRecDepth 100000 in
theorem fl_X11_52 : gm_FL RX11 52 11 29 2 := ⟨by decide, by decide, gm_t5 (i := 94) rfl rfl, rfl⟩
set_option maxRecDepth 100000 in
theorem fl_X11_55 : gm_FL RX11 55 11 30 2 := ⟨by decide, by decide, gm_t5 (i := 95) rfl rfl, rfl⟩
set_option maxRecDepth 100000 in
theorem fl_X11_58 : gm_FL RX11 58 11 31 2 := ⟨by decide, by decide, gm_t5 (i := 96) rfl rfl, rfl⟩
set_option maxRecDepth 100000 in
theorem fl_X11_65 : gm_FL RX11 65 11 5 0 := ⟨by decide, by decide, gm_t5 (i := 70) rfl rfl, rfl⟩
set_option maxRecDepth 100000 in
theorem fl_X11_68 : gm_FL RX11 68 11 8 0 := ⟨by decide, by decide, gm_t5 (i := 73) rfl rfl, rfl⟩
set_option maxRecDepth 100000 in
theorem fl_X11_83 : gm_FL RX11 83 11 6 0 := ⟨by decide, by decide, gm_t5 (i := 71) rfl rfl, rfl⟩
set_option maxRecDepth 100000 in
theorem fl_X11_86 : gm_FL RX11 86 11 7 0 := ⟨by decide, by decide, gm_t5 (i := 72) rfl rfl, rfl⟩
set_option maxRecDepth 100000 in
theorem fl_X11_93 : gm_FL RX11 93 11 9 0 := ⟨by decide, by decide, gm_t5 (i := 74) rfl rfl, rfl⟩
set_option maxRecDepth 100000 in
theorem fl_X11_106 : gm_FL RX11 106 11 10 0 := ⟨by decide, by decide, gm_t5 (i := 75) rfl rfl, rfl⟩
set_option maxRecDepth 100000 in
theorem fl_X11_109 : gm_FL RX11 109 11 11 0 := ⟨by decide, by decide, gm_t5 (i := 76) rfl rfl, rfl⟩
set_option maxRecDepth 100000 in
theorem fl_X11_112 : gm_FL RX11 112 11 12 0 := ⟨by decide, by decide, gm_t5 (i := 77) rfl rfl, rfl⟩
set_option maxRecDepth 100000 in
theorem fl_X11_142 : gm_FL RX11 142 11 13 0 := ⟨by decide, by decide, gm_t5 (i := 78) rfl rfl, rfl⟩
set_option maxRecDepth 100000 in
theorem fl_X11_189 : gm_FL RX11 189 11 16 0 := ⟨by decide, by decide, gm_t5 (i := 81) rfl rfl, rfl⟩
set_option maxRecDepth 100000 in
theorem fl_X11_208 : gm_FL RX11 208 11 17 0 := ⟨by decide, by decide, gm_t5 (i := 82) rfl rfl, rfl⟩
set_option maxRecDepth 100000 in
theorem fl_X11_236 : gm_FL RX11 236 11 19 1 := ⟨by decide, by decide, gm_t5 (i := 84) rfl rfl, rfl⟩
set_option maxRecDepth 100000 in
theorem fl_X11_278 : gm_FL RX11 278 11 21 0 := ⟨by decide, by decide, gm_t5 (i := 86) rfl rfl, rfl⟩
set_option maxRecDepth 100000 in
theorem fl_X11_281 : gm_FL RX11 281 11 22 0 := ⟨by decide, by decide, gm_t5 (i := 87) rfl rfl, rfl⟩
set_option maxRecDepth 100000 in
theorem fl_X11_290 : gm_FL RX11 290 11 23 0 := ⟨by decide, by decide, gm_t5 (i := 88) rfl rfl, rfl⟩
set_option maxRecDepth 100000 in
theorem fl_X11_293 : gm_FL RX11 293 11 24 0 := ⟨by decide, by decide, gm_t5 (i := 89) rfl rfl, rfl⟩
set_option maxRecDepth 100000 in
theorem mm_X0_init : gm_MI yX0_init cX0_init 1 0 := ⟨⟨gm_t1 (i := 175) rfl rfl, gm_t1 (i := 5) rfl rfl, ⟨by decide, by decide, by decide +kernel⟩⟩, gm_t1 (i := 174) rfl rfl, rfl⟩
set_option maxRecDepth 100000 in
theorem mm_X0_start : gm_MV yX0_start cX0_start 2 none 1 0 := ⟨⟨gm_t3 (i := 172) rfl rfl, gm_t1 (i := 5) rfl rfl, ⟨by decide, by decide, by decide +kernel⟩⟩, gm_t3 (i := 170) rfl rfl, gm_t3 (i := 171) rfl rfl, rfl, by decide⟩
set_option maxRecDepth 100000 in
theorem mm_X0_draw : gm_MV yX0_draw cX0_draw 1 (some .int) 0 0 := ⟨⟨gm_t3 (i := 180) rfl rfl, gm_t1 (i := 5) rfl rfl, ⟨by decide, by decide, by decide +kernel⟩⟩, gm_t3 (i := 179) rfl rfl, gm_pv (i := 17) rfl rfl, rfl, by decide⟩
set_option maxRecDepth 100000 in
theorem mm_X0_fill : gm_MV yX0_fill cX0_fill 7 none 4 0 := ⟨⟨gm_t3 (i := 176) rfl rfl, gm_t1 (i := 5) rfl rfl, ⟨by decide, by decide, by decide +kernel⟩⟩, gm_t3 (i := 174) rfl rfl, gm_t3 (i := 175) rfl rfl, rfl, by decide⟩
set_option maxRecDepth 100000 in
theorem mm_X0_nextNumber : gm_MV yX0_nextNumber cX0_nextNumber 8 (some .int) 3 0 := ⟨⟨gm_t3 (i := 186) rfl rfl, gm_t1 (i := 5) rfl rfl, ⟨by decide, by decide, by decide +kernel⟩⟩, gm_t3 (i := 185) rfl rfl, gm_pv (i := 18) rfl rfl, rfl, by decide⟩
set_option maxRecDepth 100000 in
theorem mm_X1_init : gm_MI yX1_init cX1_init 1 0 := ⟨⟨gm_t1 (i := 31) rfl rfl, gm_t1 (i := 2) rfl rfl, ⟨by decide, by decide, by decide +kernel⟩⟩, gm_t1 (i := 30) rfl rfl, rfl⟩
set_option maxRecDepth 100000 in
theorem mm_X1_clear : gm_MV yX1_clear cX1_clear 1 none 0 1 := ⟨⟨gm_t2 (i := 154) rfl rfl, gm_t1 (i := 2) rfl rfl, ⟨by decide, by decide, by decide +kernel⟩⟩, gm_t2 (i := 152) rfl rfl, gm_t2 (i := 153) rfl rfl, rfl, by decide⟩
set_option maxRecDepth 100000 in
theorem mm_X1_takeFrom : gm_MV yX1_takeFrom cX1_takeFrom 2 none 1 1 := ⟨⟨gm_t3 (i := 24) rfl rfl, gm_t1 (i := 2) rfl rfl, ⟨by decide, by decide, by decide +kernel⟩⟩, gm_t3 (i := 22) rfl rfl, gm_t3 (i := 23) rfl rfl, rfl, by decide⟩
set_option maxRecDepth 100000 in
theorem mm_X1_has : gm_MV yX1_has cX1_has 2 (some .boolean) 1 1 := ⟨⟨gm_t3 (i := 43) rfl rfl, gm_t1 (i := 2) rfl rfl, ⟨by decide, by decide, by decide +kernel⟩⟩, gm_t3 (i := 41) rfl rfl, gm_t3 (i := 42) rfl rfl, rfl, by decide⟩
set_option maxRecDepth 100000 in
theorem mm_X1_spans : gm_MV yX1_spans cX1_spans 2 (some .boolean) 1 1 := ⟨⟨gm_t3 (i := 71) rfl rfl, gm_t1 (i := 2) rfl rfl, ⟨by decide, by decide, by decide +kernel⟩⟩, gm_t3 (i := 69) rfl rfl, gm_t3 (i := 70) rfl rfl, rfl, by decide⟩
set_option maxRecDepth 100000 in
theorem mm_X1_weightOf : gm_MV yX1_weightOf cX1_weightOf 2 (some .int) 1 1 := ⟨⟨gm_t3 (i := 75) rfl rfl, gm_t1 (i := 2) rfl rfl, ⟨by decide, by decide, by decide +kernel⟩⟩, gm_t3 (i := 73) rfl rfl, gm_t3 (i := 74) rfl rfl, rfl, by decide⟩
set_option maxRecDepth 100000 in
theorem mm_X1_sightOf : gm_MV yX1_sightOf cX1_sightOf 3 (some .int) 2 1 := ⟨⟨gm_t3 (i := 62) rfl rfl, gm_t1 (i := 2) rfl rfl, ⟨by decide, by decide, by decide +kernel⟩⟩, gm_t3 (i := 60) rfl rfl, gm_t3 (i := 61) rfl rfl, rfl, by decide⟩
set_option maxRecDepth 100000 in
theorem mm_X2_init : gm_MI yX2_init cX2_init 1 0 := ⟨⟨gm_t2 (i := 74) rfl rfl, gm_t1 (i := 11) rfl rfl, ⟨by decide, by decide, by decide +kernel⟩⟩, gm_t2 (i := 73) rfl rfl, rfl⟩
set_option maxRecDepth 100000 in
theorem mm_X3_init : gm_MI yX3_init cX3_init 1 0 := ⟨⟨gm_t1 (i := 185) rfl rfl, gm_t1 (i := 6) rfl rfl, ⟨by decide, by decide, by decide +kernel⟩⟩, gm_t1 (i := 184) rfl rfl, rfl⟩
set_option maxRecDepth 100000 in
theorem mm_X3_start : gm_MV yX3_start cX3_start 2 none 1 3 := ⟨⟨gm_t4 (i := 207) rfl rfl, gm_t1 (i := 6) rfl rfl, ⟨by decide, by decide, by decide +kernel⟩⟩, gm_t4 (i := 205) rfl rfl, gm_t4 (i := 206) rfl rfl, rfl, by decide⟩
set_option maxRecDepth 100000 in
theorem mm_X3_addOne : gm_MV yX3_addOne cX3_addOne 6 none 0 3 := ⟨⟨gm_t4 (i := 213) rfl rfl, gm_t1 (i := 6) rfl rfl, ⟨by decide, by decide, by decide +kernel⟩⟩, gm_t4 (i := 211) rfl rfl, gm_t4 (i := 212) rfl rfl, rfl, by decide⟩
set_option maxRecDepth 100000 in
theorem mm_X3_within : gm_MV yX3_within cX3_within 6 (some .long) 1 3 := ⟨⟨gm_t4 (i := 217) rfl rfl, gm_t1 (i := 6) rfl rfl, ⟨by decide, by decide, by decide +kernel⟩⟩, gm_t4 (i := 215) rfl rfl, gm_t4 (i := 216) rfl rfl, rfl, by decide⟩
set_option maxRecDepth 100000 in
theorem mm_X4_init : gm_MI yX4_init cX4_init 1 0 := ⟨⟨gm_t1 (i := 219) rfl rfl, gm_t1 (i := 8) rfl rfl, ⟨by decide, by decide, by decide +kernel⟩⟩, gm_t1 (i := 218) rfl rfl, rfl⟩
set_option maxRecDepth 100000 in
theorem mm_X4_open : gm_MV yX4_open cX4_open 4 none 3 4 := ⟨⟨gm_t3 (i := 221) rfl rfl, gm_t1 (i := 8) rfl rfl, ⟨by decide, by decide, by decide +kernel⟩⟩, gm_t3 (i := 219) rfl rfl, gm_t3 (i := 220) rfl rfl, rfl, by decide⟩
set_option maxRecDepth 100000 in
theorem mm_X4_yieldTo : gm_MV yX4_yieldTo cX4_yieldTo 2 none 1 4 := ⟨⟨gm_t3 (i := 225) rfl rfl, gm_t1 (i := 8) rfl rfl, ⟨by decide, by decide, by decide +kernel⟩⟩, gm_t3 (i := 223) rfl rfl, gm_t3 (i := 224) rfl rfl, rfl, by decide⟩
set_option maxRecDepth 100000 in
theorem mm_X4_keepFrom : gm_MV yX4_keepFrom cX4_keepFrom 2 none 1 4 := ⟨⟨gm_t3 (i := 231) rfl rfl, gm_t1 (i := 8) rfl rfl, ⟨by decide, by decide, by decide +kernel⟩⟩, gm_t3 (i := 229) rfl rfl, gm_t3 (i := 230) rfl rfl, rfl, by decide⟩
set_option maxRecDepth 100000 in
theorem mm_X4_width : gm_MV yX4_width cX4_width 1 (some .int) 0 4 := ⟨⟨gm_t3 (i := 235) rfl rfl, gm_t1 (i := 8) rfl rfl, ⟨by decide, by decide, by decide +kernel⟩⟩, gm_t3 (i := 233) rfl rfl, gm_t3 (i := 234) rfl rfl, rfl, by decide⟩
set_option maxRecDepth 100000 in
theorem mm_X5_init : gm_MI yX5_init cX5_init 1 0 := ⟨⟨gm_t1 (i := 116) rfl rfl, gm_t1 (i := 3) rfl rfl, ⟨by decide, by decide, by decide +kernel⟩⟩, gm_t1 (i := 115) rfl rfl, rfl⟩
set_option maxRecDepth 100000 in
theorem mm_X5_readText : gm_MV yX5_readText cX5_readText 5 none 3 5 := ⟨⟨gm_t2 (i := 147) rfl rfl, gm_t1 (i := 3) rfl rfl, ⟨by decide, by decide, by decide +kernel⟩⟩, gm_t2 (i := 145) rfl rfl, gm_t2 (i := 146) rfl rfl, rfl, by decide⟩
set_option maxRecDepth 100000 in
theorem mm_X5_readLine : gm_MV yX5_readLine cX5_readLine 3 (some .boolean) 1 5 := ⟨⟨gm_t2 (i := 172) rfl rfl, gm_t1 (i := 3) rfl rfl, ⟨by decide, by decide, by decide +kernel⟩⟩, gm_t2 (i := 171) rfl rfl, gm_pv (i := 3) rfl rfl, rfl, by decide⟩
set_option maxRecDepth 100000 in
theorem mm_X5_readGrid : gm_MV yX5_readGrid cX5_readGrid 2 (some .boolean) 1 5 := ⟨⟨gm_t2 (i := 233) rfl rfl, gm_t1 (i := 3) rfl rfl, ⟨by decide, by decide, by decide +kernel⟩⟩, gm_t2 (i := 232) rfl rfl, gm_pv (i := 6) rfl rfl, rfl, by decide⟩
set_option maxRecDepth 100000 in
theorem mm_X5_readPrior : gm_MV yX5_readPrior cX5_readPrior 2 (some .boolean) 1 5 := ⟨⟨gm_t3 (i := 6) rfl rfl, gm_t1 (i := 3) rfl rfl, ⟨by decide, by decide, by decide +kernel⟩⟩, gm_t3 (i := 5) rfl rfl, gm_pv (i := 9) rfl rfl, rfl, by decide⟩
set_option maxRecDepth 100000 in
theorem mm_X5_readGuesser : gm_MV yX5_readGuesser cX5_readGuesser 3 (some .boolean) 1 5 := ⟨⟨gm_t3 (i := 11) rfl rfl, gm_t1 (i := 3) rfl rfl, ⟨by decide, by decide, by decide +kernel⟩⟩, gm_t3 (i := 10) rfl rfl, gm_pv (i := 10) rfl rfl, rfl, by decide⟩
set_option maxRecDepth 100000 in
theorem mm_X5_endLine : gm_MV yX5_endLine cX5_endLine 1 (some .boolean) 0 5 := ⟨⟨gm_t3 (i := 20) rfl rfl, gm_t1 (i := 3) rfl rfl, ⟨by decide, by decide, by decide +kernel⟩⟩, gm_t3 (i := 19) rfl rfl, gm_pv (i := 11) rfl rfl, rfl, by decide⟩
set_option maxRecDepth 100000 in
theorem mm_X5_takeNumber : gm_MV yX5_takeNumber cX5_takeNumber 3 (some .boolean) 2 5 := ⟨⟨gm_t2 (i := 237) rfl rfl, gm_t1 (i := 3) rfl rfl, ⟨by decide, by decide, by decide +kernel⟩⟩, gm_t2 (i := 236) rfl rfl, gm_pv (i := 7) rfl rfl, rfl, by decide⟩
set_option maxRecDepth 100000 in
theorem mm_X5_takeWord : gm_MV yX5_takeWord cX5_takeWord 2 (some .boolean) 1 5 := ⟨⟨gm_t2 (i := 177) rfl rfl, gm_t1 (i := 3) rfl rfl, ⟨by decide, by decide, by decide +kernel⟩⟩, gm_t2 (i := 176) rfl rfl, gm_pv (i := 4) rfl rfl, rfl, by decide⟩
set_option maxRecDepth 100000 in
theorem mm_X5_isWord : gm_MV yX5_isWord cX5_isWord 3 (some .boolean) 1 5 := ⟨⟨gm_t2 (i := 181) rfl rfl, gm_t1 (i := 3) rfl rfl, ⟨by decide, by decide, by decide +kernel⟩⟩, gm_t2 (i := 180) rfl rfl, gm_pv (i := 5) rfl rfl, rfl, by decide⟩
set_option maxRecDepth 100000 in
theorem mm_X5_refuse : gm_MV yX5_refuse cX5_refuse 2 (some .boolean) 1 5 := ⟨⟨gm_t3 (i := 1) rfl rfl, gm_t1 (i := 3) rfl rfl, ⟨by decide, by decide, by decide +kernel⟩⟩, gm_t3 (i := 0) rfl rfl, gm_pv (i := 8) rfl rfl, rfl, by decide⟩
set_option maxRecDepth 100000 in
theorem mm_X5_next : gm_MV yX5_next cX5_next 2 none 0 5 := ⟨⟨gm_t2 (i := 158) rfl rfl, gm_t1 (i := 3) rfl rfl, ⟨by decide, by decide, by decide +kernel⟩⟩, gm_t2 (i := 157) rfl rfl, gm_pv (i := 1) rfl rfl, rfl, by decide⟩
set_option maxRecDepth 100000 in
theorem mm_X5_isLetter : gm_MS yX5_isLetter cX5_isLetter 1 (some .boolean) 1 := ⟨⟨gm_t2 (i := 165) rfl rfl, gm_t1 (i := 3) rfl rfl, ⟨by decide, by decide, by decide +kernel⟩⟩, gm_t2 (i := 164) rfl rfl⟩
set_option maxRecDepth 100000 in
theorem mm_X5_isDigit : gm_MS yX5_isDigit cX5_isDigit 1 (some .boolean) 1 := ⟨⟨gm_t2 (i := 168) rfl rfl, gm_t1 (i := 3) rfl rfl, ⟨by decide, by decide, by decide +kernel⟩⟩, gm_t2 (i := 167) rfl rfl⟩
set_option maxRecDepth 100000 in
theorem mm_X5_byteAt : gm_MV yX5_byteAt cX5_byteAt 2 (some .int) 1 5 := ⟨⟨gm_t2 (i := 162) rfl rfl, gm_t1 (i := 3) rfl rfl, ⟨by decide, by decide, by decide +kernel⟩⟩, gm_t2 (i := 161) rfl rfl, gm_pv (i := 2) rfl rfl, rfl, by decide⟩
set_option maxRecDepth 100000 in
theorem mm_X6_init : gm_MI yX6_init cX6_init 1 0 := ⟨⟨gm_t2 (i := 57) rfl rfl, gm_t1 (i := 10) rfl rfl, ⟨by decide, by decide, by decide +kernel⟩⟩, gm_t2 (i := 56) rfl rfl, rfl⟩
set_option maxRecDepth 100000 in
theorem mm_X6_isMissing : gm_MV yX6_isMissing cX6_isMissing 1 (some .boolean) 0 6 := ⟨⟨gm_t3 (i := 136) rfl rfl, gm_t1 (i := 10) rfl rfl, ⟨by decide, by decide, by decide +kernel⟩⟩, gm_t3 (i := 134) rfl rfl, gm_t3 (i := 135) rfl rfl, rfl, by decide⟩
set_option maxRecDepth 100000 in
theorem mm_X6_begin : gm_MV yX6_begin cX6_begin 4 none 2 6 := ⟨⟨gm_t5 (i := 12) rfl rfl, gm_t1 (i := 10) rfl rfl, ⟨by decide, by decide, by decide +kernel⟩⟩, gm_t5 (i := 10) rfl rfl, gm_t5 (i := 11) rfl rfl, rfl, by decide⟩
set_option maxRecDepth 100000 in
theorem mm_X6_set : gm_MV yX6_set cX6_set 4 (some .long) 2 6 := ⟨⟨gm_t5 (i := 22) rfl rfl, gm_t1 (i := 10) rfl rfl, ⟨by decide, by decide, by decide +kernel⟩⟩, gm_t5 (i := 20) rfl rfl, gm_t5 (i := 21) rfl rfl, rfl, by decide⟩
set_option maxRecDepth 100000 in
theorem mm_X6_cut : gm_MV yX6_cut cX6_cut 3 (some .long) 1 6 := ⟨⟨gm_t5 (i := 26) rfl rfl, gm_t1 (i := 10) rfl rfl, ⟨by decide, by decide, by decide +kernel⟩⟩, gm_t5 (i := 25) rfl rfl, gm_pv (i := 26) rfl rfl, rfl, by decide⟩
set_option maxRecDepth 100000 in
theorem mm_X7_init : gm_MI yX7_init cX7_init 3 2 := ⟨⟨gm_t1 (i := 213) rfl rfl, gm_t1 (i := 7) rfl rfl, ⟨by decide, by decide, by decide +kernel⟩⟩, gm_t1 (i := 212) rfl rfl, rfl⟩
set_option maxRecDepth 100000 in
theorem mm_X7_low : gm_MV yX7_low cX7_low 1 (some .int) 0 7 := ⟨⟨gm_t4 (i := 136) rfl rfl, gm_t1 (i := 7) rfl rfl, ⟨by decide, by decide, by decide +kernel⟩⟩, gm_t4 (i := 134) rfl rfl, gm_t4 (i := 135) rfl rfl, rfl, by decide⟩
set_option maxRecDepth 100000 in
theorem mm_X7_waysFor : gm_MV yX7_waysFor cX7_waysFor 9 (some .long) 3 7 := ⟨⟨gm_t4 (i := 5) rfl rfl, gm_t1 (i := 7) rfl rfl, ⟨by decide, by decide, by decide +kernel⟩⟩, gm_t4 (i := 3) rfl rfl, gm_t4 (i := 4) rfl rfl, rfl, by decide⟩
set_option maxRecDepth 100000 in
theorem mm_X7_copyChance : gm_MV yX7_copyChance cX7_copyChance 4 (some .long) 1 7 := ⟨⟨gm_t4 (i := 10) rfl rfl, gm_t1 (i := 7) rfl rfl, ⟨by decide, by decide, by decide +kernel⟩⟩, gm_t4 (i := 9) rfl rfl, gm_pv (i := 19) rfl rfl, rfl, by decide⟩
set_option maxRecDepth 100000 in
theorem mm_X7_sightChance : gm_MV yX7_sightChance cX7_sightChance 4 (some .long) 2 7 := ⟨⟨gm_t4 (i := 16) rfl rfl, gm_t1 (i := 7) rfl rfl, ⟨by decide, by decide, by decide +kernel⟩⟩, gm_t4 (i := 15) rfl rfl, gm_pv (i := 20) rfl rfl, rfl, by decide⟩
set_option maxRecDepth 100000 in
theorem mm_X7_weigh : gm_MV yX7_weigh cX7_weigh 3 none 1 7 := ⟨⟨gm_t3 (i := 239) rfl rfl, gm_t1 (i := 7) rfl rfl, ⟨by decide, by decide, by decide +kernel⟩⟩, gm_t3 (i := 237) rfl rfl, gm_t3 (i := 238) rfl rfl, rfl, by decide⟩
set_option maxRecDepth 100000 in
theorem mm_X7_total : gm_MV yX7_total cX7_total 1 (some .long) 0 7 := ⟨⟨gm_t4 (i := 73) rfl rfl, gm_t1 (i := 7) rfl rfl, ⟨by decide, by decide, by decide +kernel⟩⟩, gm_t4 (i := 71) rfl rfl, gm_t4 (i := 72) rfl rfl, rfl, by decide⟩
set_option maxRecDepth 100000 in
theorem mm_X7_sum : gm_MV yX7_sum cX7_sum 5 (some .long) 2 7 := ⟨⟨gm_t4 (i := 23) rfl rfl, gm_t1 (i := 7) rfl rfl, ⟨by decide, by decide, by decide +kernel⟩⟩, gm_t4 (i := 21) rfl rfl, gm_t4 (i := 22) rfl rfl, rfl, by decide⟩
set_option maxRecDepth 100000 in
theorem mm_X7_weightedSum : gm_MV yX7_weightedSum cX7_weightedSum 4 (some .long) 0 7 := ⟨⟨gm_t4 (i := 97) rfl rfl, gm_t1 (i := 7) rfl rfl, ⟨by decide, by decide, by decide +kernel⟩⟩, gm_t4 (i := 95) rfl rfl, gm_t4 (i := 96) rfl rfl, rfl, by decide⟩
set_option maxRecDepth 100000 in
theorem mm_X7_halfway : gm_MV yX7_halfway cX7_halfway 2 (some .int) 0 7 := ⟨⟨gm_t4 (i := 91) rfl rfl, gm_t1 (i := 7) rfl rfl, ⟨by decide, by decide, by decide +kernel⟩⟩, gm_t4 (i := 89) rfl rfl, gm_t4 (i := 90) rfl rfl, rfl, by decide⟩
set_option maxRecDepth 100000 in
theorem mm_X7_copiedWays : gm_MV yX7_copiedWays cX7_copiedWays 6 (some .long) 2 7 := ⟨⟨gm_t4 (i := 105) rfl rfl, gm_t1 (i := 7) rfl rfl, ⟨by decide, by decide, by decide +kernel⟩⟩, gm_t4 (i := 103) rfl rfl, gm_t4 (i := 104) rfl rfl, rfl, by decide⟩
set_option maxRecDepth 100000 in
theorem mm_X7_reachBehind : gm_MV yX7_reachBehind cX7_reachBehind 4 (some (.object "JarGuess$Reach")) 2 7 := ⟨⟨gm_t3 (i := 217) rfl rfl, gm_t1 (i := 7) rfl rfl, ⟨by decide, by decide, by decide +kernel⟩⟩, gm_t3 (i := 215) rfl rfl, gm_t3 (i := 216) rfl rfl, rfl, by decide⟩
set_option maxRecDepth 100000 in
theorem mm_X7_reachOf : gm_MV yX7_reachOf cX7_reachOf 3 (some (.object "JarGuess$Reach")) 1 7 := ⟨⟨gm_t3 (i := 212) rfl rfl, gm_t1 (i := 7) rfl rfl, ⟨by decide, by decide, by decide +kernel⟩⟩, gm_t3 (i := 210) rfl rfl, gm_t3 (i := 211) rfl rfl, rfl, by decide⟩
set_option maxRecDepth 100000 in
theorem mm_X7_lay : gm_MV yX7_lay cX7_lay 4 none 2 7 := ⟨⟨gm_t4 (i := 122) rfl rfl, gm_t1 (i := 7) rfl rfl, ⟨by decide, by decide, by decide +kernel⟩⟩, gm_t4 (i := 120) rfl rfl, gm_t4 (i := 121) rfl rfl, rfl, by decide⟩
set_option maxRecDepth 100000 in
theorem mm_X7_wholeOf : gm_MV yX7_wholeOf cX7_wholeOf 3 (some .long) 1 7 := ⟨⟨gm_t4 (i := 140) rfl rfl, gm_t1 (i := 7) rfl rfl, ⟨by decide, by decide, by decide +kernel⟩⟩, gm_t4 (i := 138) rfl rfl, gm_t4 (i := 139) rfl rfl, rfl, by decide⟩
set_option maxRecDepth 100000 in
theorem mm_X7_laidReach : gm_MV yX7_laidReach cX7_laidReach 3 (some (.object "JarGuess$Reach")) 1 7 := ⟨⟨gm_t4 (i := 148) rfl rfl, gm_t1 (i := 7) rfl rfl, ⟨by decide, by decide, by decide +kernel⟩⟩, gm_t4 (i := 146) rfl rfl, gm_t4 (i := 147) rfl rfl, rfl, by decide⟩
set_option maxRecDepth 100000 in
theorem mm_X7_chooseTwo : gm_MV yX7_chooseTwo cX7_chooseTwo 7 none 0 7 := ⟨⟨gm_t4 (i := 162) rfl rfl, gm_t1 (i := 7) rfl rfl, ⟨by decide, by decide, by decide +kernel⟩⟩, gm_t4 (i := 160) rfl rfl, gm_t4 (i := 161) rfl rfl, rfl, by decide⟩
set_option maxRecDepth 100000 in
theorem mm_X7_keepTwo : gm_MV yX7_keepTwo cX7_keepTwo 5 none 3 7 := ⟨⟨gm_t4 (i := 167) rfl rfl, gm_t1 (i := 7) rfl rfl, ⟨by decide, by decide, by decide +kernel⟩⟩, gm_t4 (i := 166) rfl rfl, gm_pv (i := 23) rfl rfl, rfl, by decide⟩
set_option maxRecDepth 100000 in
theorem mm_X8_init : gm_MI yX8_init cX8_init 1 0 := ⟨⟨gm_t1 (i := 152) rfl rfl, gm_t1 (i := 4) rfl rfl, ⟨by decide, by decide, by decide +kernel⟩⟩, gm_t1 (i := 151) rfl rfl, rfl⟩
set_option maxRecDepth 100000 in
theorem mm_X8_takeFrom : gm_MV yX8_takeFrom cX8_takeFrom 2 none 1 8 := ⟨⟨gm_t5 (i := 41) rfl rfl, gm_t1 (i := 4) rfl rfl, ⟨by decide, by decide, by decide +kernel⟩⟩, gm_t5 (i := 39) rfl rfl, gm_t5 (i := 40) rfl rfl, rfl, by decide⟩
set_option maxRecDepth 100000 in
theorem mm_X8_has : gm_MV yX8_has cX8_has 2 (some .boolean) 1 8 := ⟨⟨gm_t3 (i := 108) rfl rfl, gm_t1 (i := 4) rfl rfl, ⟨by decide, by decide, by decide +kernel⟩⟩, gm_t3 (i := 106) rfl rfl, gm_t3 (i := 107) rfl rfl, rfl, by decide⟩
set_option maxRecDepth 100000 in
theorem mm_X8_add : gm_MV yX8_add cX8_add 3 none 2 8 := ⟨⟨gm_t3 (i := 96) rfl rfl, gm_t1 (i := 4) rfl rfl, ⟨by decide, by decide, by decide +kernel⟩⟩, gm_t3 (i := 94) rfl rfl, gm_t3 (i := 95) rfl rfl, rfl, by decide⟩
set_option maxRecDepth 100000 in
theorem mm_X8_cutTo : gm_MV yX8_cutTo cX8_cutTo 2 none 1 8 := ⟨⟨gm_t3 (i := 31) rfl rfl, gm_t1 (i := 4) rfl rfl, ⟨by decide, by decide, by decide +kernel⟩⟩, gm_t3 (i := 29) rfl rfl, gm_t3 (i := 30) rfl rfl, rfl, by decide⟩
set_option maxRecDepth 100000 in
theorem mm_X8_sumOf : gm_MV yX8_sumOf cX8_sumOf 4 (some .int) 1 8 := ⟨⟨gm_t3 (i := 116) rfl rfl, gm_t1 (i := 4) rfl rfl, ⟨by decide, by decide, by decide +kernel⟩⟩, gm_t3 (i := 114) rfl rfl, gm_t3 (i := 115) rfl rfl, rfl, by decide⟩
set_option maxRecDepth 100000 in
theorem mm_X8_meanOf : gm_MV yX8_meanOf cX8_meanOf 2 (some .int) 1 8 := ⟨⟨gm_t4 (i := 31) rfl rfl, gm_t1 (i := 4) rfl rfl, ⟨by decide, by decide, by decide +kernel⟩⟩, gm_t4 (i := 29) rfl rfl, gm_t4 (i := 30) rfl rfl, rfl, by decide⟩
set_option maxRecDepth 100000 in
theorem mm_X8_goalAt : gm_MV yX8_goalAt cX8_goalAt 3 (some .int) 2 8 := ⟨⟨gm_t3 (i := 112) rfl rfl, gm_t1 (i := 4) rfl rfl, ⟨by decide, by decide, by decide +kernel⟩⟩, gm_t3 (i := 110) rfl rfl, gm_t3 (i := 111) rfl rfl, rfl, by decide⟩
set_option maxRecDepth 100000 in
theorem mm_X8_writtenBy : gm_MV yX8_writtenBy cX8_writtenBy 4 (some .int) 1 8 := ⟨⟨gm_t3 (i := 47) rfl rfl, gm_t1 (i := 4) rfl rfl, ⟨by decide, by decide, by decide +kernel⟩⟩, gm_t3 (i := 45) rfl rfl, gm_t3 (i := 46) rfl rfl, rfl, by decide⟩
set_option maxRecDepth 100000 in
theorem mm_X8_latestBy : gm_MV yX8_latestBy cX8_latestBy 3 (some .int) 1 8 := ⟨⟨gm_t3 (i := 51) rfl rfl, gm_t1 (i := 4) rfl rfl, ⟨by decide, by decide, by decide +kernel⟩⟩, gm_t3 (i := 49) rfl rfl, gm_t3 (i := 50) rfl rfl, rfl, by decide⟩
set_option maxRecDepth 100000 in
theorem mm_X8_firstOf : gm_MV yX8_firstOf cX8_firstOf 3 (some .int) 1 8 := ⟨⟨gm_t3 (i := 125) rfl rfl, gm_t1 (i := 4) rfl rfl, ⟨by decide, by decide, by decide +kernel⟩⟩, gm_t3 (i := 123) rfl rfl, gm_t3 (i := 124) rfl rfl, rfl, by decide⟩
set_option maxRecDepth 100000 in
theorem mm_X8_nearestTo : gm_MV yX8_nearestTo cX8_nearestTo 6 (some .int) 1 8 := ⟨⟨gm_t3 (i := 199) rfl rfl, gm_t1 (i := 4) rfl rfl, ⟨by decide, by decide, by decide +kernel⟩⟩, gm_t3 (i := 197) rfl rfl, gm_t3 (i := 198) rfl rfl, rfl, by decide⟩
set_option maxRecDepth 100000 in
theorem mm_X8_middle : gm_MV yX8_middle cX8_middle 6 (some .int) 0 8 := ⟨⟨gm_t4 (i := 35) rfl rfl, gm_t1 (i := 4) rfl rfl, ⟨by decide, by decide, by decide +kernel⟩⟩, gm_t4 (i := 33) rfl rfl, gm_t4 (i := 34) rfl rfl, rfl, by decide⟩
set_option maxRecDepth 100000 in
theorem mm_X8_least : gm_MV yX8_least cX8_least 3 (some .int) 0 8 := ⟨⟨gm_t4 (i := 40) rfl rfl, gm_t1 (i := 4) rfl rfl, ⟨by decide, by decide, by decide +kernel⟩⟩, gm_t4 (i := 38) rfl rfl, gm_t4 (i := 39) rfl rfl, rfl, by decide⟩
set_option maxRecDepth 100000 in
theorem mm_X8_greatest : gm_MV yX8_greatest cX8_greatest 3 (some .int) 0 8 := ⟨⟨gm_t4 (i := 45) rfl rfl, gm_t1 (i := 4) rfl rfl, ⟨by decide, by decide, by decide +kernel⟩⟩, gm_t4 (i := 43) rfl rfl, gm_t4 (i := 44) rfl rfl, rfl, by decide⟩
set_option maxRecDepth 100000 in
theorem mm_X8_unlike : gm_MV yX8_unlike cX8_unlike 3 (some .int) 0 8 := ⟨⟨gm_t5 (i := 54) rfl rfl, gm_t1 (i := 4) rfl rfl, ⟨by decide, by decide, by decide +kernel⟩⟩, gm_t5 (i := 52) rfl rfl, gm_t5 (i := 53) rfl rfl, rfl, by decide⟩
set_option maxRecDepth 100000 in
theorem mm_X9_init : gm_MI yX9_init cX9_init 2 1 := ⟨⟨gm_t2 (i := 39) rfl rfl, gm_t1 (i := 9) rfl rfl, ⟨by decide, by decide, by decide +kernel⟩⟩, gm_t2 (i := 38) rfl rfl, rfl⟩
set_option maxRecDepth 100000 in
theorem mm_X9_play : gm_MV yX9_play cX9_play 3 none 2 9 := ⟨⟨gm_t4 (i := 128) rfl rfl, gm_t1 (i := 9) rfl rfl, ⟨by decide, by decide, by decide +kernel⟩⟩, gm_t4 (i := 126) rfl rfl, gm_t4 (i := 127) rfl rfl, rfl, by decide⟩
set_option maxRecDepth 100000 in
theorem mm_X9_choose : gm_MS yX9_choose cX9_choose 9 none 3 := ⟨⟨gm_t4 (i := 131) rfl rfl, gm_t1 (i := 9) rfl rfl, ⟨by decide, by decide, by decide +kernel⟩⟩, gm_t4 (i := 130) rfl rfl⟩
set_option maxRecDepth 100000 in
theorem mm_X9_shareOf : gm_MV yX9_shareOf cX9_shareOf 5 (some .long) 2 9 := ⟨⟨gm_t4 (i := 144) rfl rfl, gm_t1 (i := 9) rfl rfl, ⟨by decide, by decide, by decide +kernel⟩⟩, gm_t4 (i := 142) rfl rfl, gm_t4 (i := 143) rfl rfl, rfl, by decide⟩
set_option maxRecDepth 100000 in
theorem mm_X10_init : gm_MI yX10_init cX10_init 5 0 := ⟨⟨gm_t1 (i := 23) rfl rfl, gm_t1 (i := 1) rfl rfl, ⟨by decide, by decide, by decide +kernel⟩⟩, gm_t1 (i := 22) rfl rfl, rfl⟩
set_option maxRecDepth 100000 in
theorem mm_X10_feed : gm_MV yX10_feed cX10_feed 6 (some .int) 5 10 := ⟨⟨gm_t2 (i := 135) rfl rfl, gm_t1 (i := 1) rfl rfl, ⟨by decide, by decide, by decide +kernel⟩⟩, gm_t2 (i := 133) rfl rfl, gm_t2 (i := 134) rfl rfl, rfl, by decide⟩
set_option maxRecDepth 100000 in
theorem mm_X10_tapeInt : gm_MV yX10_tapeInt cX10_tapeInt 3 none 1 10 := ⟨⟨gm_t2 (i := 139) rfl rfl, gm_t1 (i := 1) rfl rfl, ⟨by decide, by decide, by decide +kernel⟩⟩, gm_t2 (i := 138) rfl rfl, gm_pv (i := 0) rfl rfl, rfl, by decide⟩
set_option maxRecDepth 100000 in
theorem mm_X10_fete : gm_MV yX10_fete cX10_fete 2 (some .int) 1 10 := ⟨⟨gm_t2 (i := 143) rfl rfl, gm_t1 (i := 1) rfl rfl, ⟨by decide, by decide, by decide +kernel⟩⟩, gm_t2 (i := 141) rfl rfl, gm_t2 (i := 142) rfl rfl, rfl, by decide⟩
set_option maxRecDepth 100000 in
theorem mm_X10_fault : gm_MV yX10_fault cX10_fault 2 (some .int) 1 10 := ⟨⟨gm_t3 (i := 35) rfl rfl, gm_t1 (i := 1) rfl rfl, ⟨by decide, by decide, by decide +kernel⟩⟩, gm_t3 (i := 33) rfl rfl, gm_t3 (i := 34) rfl rfl, rfl, by decide⟩
set_option maxRecDepth 100000 in
theorem mm_X10_guesser : gm_MV yX10_guesser cX10_guesser 3 (some .int) 2 10 := ⟨⟨gm_t3 (i := 39) rfl rfl, gm_t1 (i := 1) rfl rfl, ⟨by decide, by decide, by decide +kernel⟩⟩, gm_t3 (i := 37) rfl rfl, gm_t3 (i := 38) rfl rfl, rfl, by decide⟩
set_option maxRecDepth 100000 in
theorem mm_X10_sight : gm_MV yX10_sight cX10_sight 3 (some .int) 2 10 := ⟨⟨gm_t3 (i := 55) rfl rfl, gm_t1 (i := 1) rfl rfl, ⟨by decide, by decide, by decide +kernel⟩⟩, gm_t3 (i := 53) rfl rfl, gm_t3 (i := 54) rfl rfl, rfl, by decide⟩
set_option maxRecDepth 100000 in
theorem mm_X10_weight : gm_MV yX10_weight cX10_weight 2 (some .int) 1 10 := ⟨⟨gm_t3 (i := 67) rfl rfl, gm_t1 (i := 1) rfl rfl, ⟨by decide, by decide, by decide +kernel⟩⟩, gm_t3 (i := 65) rfl rfl, gm_t3 (i := 66) rfl rfl, rfl, by decide⟩
set_option maxRecDepth 100000 in
theorem mm_X10_jar : gm_MV yX10_jar cX10_jar 3 (some .int) 1 10 := ⟨⟨gm_t3 (i := 85) rfl rfl, gm_t1 (i := 1) rfl rfl, ⟨by decide, by decide, by decide +kernel⟩⟩, gm_t3 (i := 83) rfl rfl, gm_t3 (i := 84) rfl rfl, rfl, by decide⟩
set_option maxRecDepth 100000 in
theorem mm_X10_isJar : gm_MS yX10_isJar cX10_isJar 1 (some .boolean) 1 := ⟨⟨gm_t3 (i := 58) rfl rfl, gm_t1 (i := 1) rfl rfl, ⟨by decide, by decide, by decide +kernel⟩⟩, gm_t3 (i := 57) rfl rfl⟩
set_option maxRecDepth 100000 in
theorem mm_X10_isNumber : gm_MS yX10_isNumber cX10_isNumber 1 (some .boolean) 1 := ⟨⟨gm_t3 (i := 92) rfl rfl, gm_t1 (i := 1) rfl rfl, ⟨by decide, by decide, by decide +kernel⟩⟩, gm_t3 (i := 91) rfl rfl⟩
set_option maxRecDepth 100000 in
theorem mm_X10_write : gm_MV yX10_write cX10_write 3 (some .int) 2 10 := ⟨⟨gm_t3 (i := 89) rfl rfl, gm_t1 (i := 1) rfl rfl, ⟨by decide, by decide, by decide +kernel⟩⟩, gm_t3 (i := 87) rfl rfl, gm_t3 (i := 88) rfl rfl, rfl, by decide⟩
set_option maxRecDepth 100000 in
theorem mm_X10_strike : gm_MV yX10_strike cX10_strike 2 (some .int) 1 10 := ⟨⟨gm_t3 (i := 100) rfl rfl, gm_t1 (i := 1) rfl rfl, ⟨by decide, by decide, by decide +kernel⟩⟩, gm_t3 (i := 98) rfl rfl, gm_t3 (i := 99) rfl rfl, rfl, by decide⟩
set_option maxRecDepth 100000 in
theorem mm_X10_list : gm_MV yX10_list cX10_list 3 (some .int) 2 10 := ⟨⟨gm_t3 (i := 104) rfl rfl, gm_t1 (i := 1) rfl rfl, ⟨by decide, by decide, by decide +kernel⟩⟩, gm_t3 (i := 102) rfl rfl, gm_t3 (i := 103) rfl rfl, rfl, by decide⟩
set_option maxRecDepth 100000 in
theorem mm_X10_offJar : gm_MV yX10_offJar cX10_offJar 2 (some .int) 1 10 := ⟨⟨gm_t3 (i := 120) rfl rfl, gm_t1 (i := 1) rfl rfl, ⟨by decide, by decide, by decide +kernel⟩⟩, gm_t3 (i := 119) rfl rfl, gm_pv (i := 12) rfl rfl, rfl, by decide⟩
set_option maxRecDepth 100000 in
theorem mm_X10_judge : gm_MV yX10_judge cX10_judge 5 (some .int) 2 10 := ⟨⟨gm_t3 (i := 129) rfl rfl, gm_t1 (i := 1) rfl rfl, ⟨by decide, by decide, by decide +kernel⟩⟩, gm_t3 (i := 127) rfl rfl, gm_t3 (i := 128) rfl rfl, rfl, by decide⟩
set_option maxRecDepth 100000 in
theorem mm_X10_perform : gm_MV yX10_perform cX10_perform 5 (some .int) 1 10 := ⟨⟨gm_t3 (i := 157) rfl rfl, gm_t1 (i := 1) rfl rfl, ⟨by decide, by decide, by decide +kernel⟩⟩, gm_t3 (i := 155) rfl rfl, gm_t3 (i := 156) rfl rfl, rfl, by decide⟩
set_option maxRecDepth 100000 in
theorem mm_X10_writable : gm_MV yX10_writable cX10_writable 3 (some .int) 1 10 := ⟨⟨gm_t3 (i := 140) rfl rfl, gm_t1 (i := 1) rfl rfl, ⟨by decide, by decide, by decide +kernel⟩⟩, gm_t3 (i := 139) rfl rfl, gm_pv (i := 13) rfl rfl, rfl, by decide⟩
set_option maxRecDepth 100000 in
theorem mm_X10_tellFault : gm_MV yX10_tellFault cX10_tellFault 4 (some .int) 2 10 := ⟨⟨gm_t3 (i := 144) rfl rfl, gm_t1 (i := 1) rfl rfl, ⟨by decide, by decide, by decide +kernel⟩⟩, gm_t3 (i := 143) rfl rfl, gm_pv (i := 14) rfl rfl, rfl, by decide⟩
set_option maxRecDepth 100000 in
theorem mm_X10_toldGuesser : gm_MS yX10_toldGuesser cX10_toldGuesser 2 (some .int) 1 := ⟨⟨gm_t3 (i := 160) rfl rfl, gm_t1 (i := 1) rfl rfl, ⟨by decide, by decide, by decide +kernel⟩⟩, gm_t3 (i := 159) rfl rfl⟩
set_option maxRecDepth 100000 in
theorem mm_X10_toldNumber : gm_MS yX10_toldNumber cX10_toldNumber 2 (some .int) 1 := ⟨⟨gm_t3 (i := 148) rfl rfl, gm_t1 (i := 1) rfl rfl, ⟨by decide, by decide, by decide +kernel⟩⟩, gm_t3 (i := 147) rfl rfl⟩
set_option maxRecDepth 100000 in
theorem mm_X10_meanWith : gm_MV yX10_meanWith cX10_meanWith 6 (some .int) 2 10 := ⟨⟨gm_t3 (i := 152) rfl rfl, gm_t1 (i := 1) rfl rfl, ⟨by decide, by decide, by decide +kernel⟩⟩, gm_t3 (i := 151) rfl rfl, gm_pv (i := 15) rfl rfl, rfl, by decide⟩
set_option maxRecDepth 100000 in
theorem mm_X10_come : gm_MV yX10_come cX10_come 3 (some .int) 2 10 := ⟨⟨gm_t3 (i := 164) rfl rfl, gm_t1 (i := 1) rfl rfl, ⟨by decide, by decide, by decide +kernel⟩⟩, gm_t3 (i := 162) rfl rfl, gm_t3 (i := 163) rfl rfl, rfl, by decide⟩
set_option maxRecDepth 100000 in
theorem mm_X10_canDraw : gm_MV yX10_canDraw cX10_canDraw 1 (some .boolean) 0 10 := ⟨⟨gm_t3 (i := 168) rfl rfl, gm_t1 (i := 1) rfl rfl, ⟨by decide, by decide, by decide +kernel⟩⟩, gm_t3 (i := 167) rfl rfl, gm_pv (i := 16) rfl rfl, rfl, by decide⟩
set_option maxRecDepth 100000 in
theorem mm_X10_leader : gm_MV yX10_leader cX10_leader 2 (some .int) 1 10 := ⟨⟨gm_t3 (i := 195) rfl rfl, gm_t1 (i := 1) rfl rfl, ⟨by decide, by decide, by decide +kernel⟩⟩, gm_t3 (i := 193) rfl rfl, gm_t3 (i := 194) rfl rfl, rfl, by decide⟩
set_option maxRecDepth 100000 in
theorem mm_X10_winner : gm_MV yX10_winner cX10_winner 1 (some .int) 0 10 := ⟨⟨gm_t3 (i := 204) rfl rfl, gm_t1 (i := 1) rfl rfl, ⟨by decide, by decide, by decide +kernel⟩⟩, gm_t3 (i := 202) rfl rfl, gm_t3 (i := 203) rfl rfl, rfl, by decide⟩
set_option maxRecDepth 100000 in
theorem mm_X10_wins : gm_MV yX10_wins cX10_wins 4 (some .int) 2 10 := ⟨⟨gm_t3 (i := 208) rfl rfl, gm_t1 (i := 1) rfl rfl, ⟨by decide, by decide, by decide +kernel⟩⟩, gm_t3 (i := 206) rfl rfl, gm_t3 (i := 207) rfl rfl, rfl, by decide⟩
set_option maxRecDepth 100000 in
theorem mm_X10_mean : gm_MV yX10_mean cX10_mean 2 (some .int) 1 10 := ⟨⟨gm_t4 (i := 27) rfl rfl, gm_t1 (i := 1) rfl rfl, ⟨by decide, by decide, by decide +kernel⟩⟩, gm_t4 (i := 25) rfl rfl, gm_t4 (i := 26) rfl rfl, rfl, by decide⟩
set_option maxRecDepth 100000 in
theorem mm_X10_nearest : gm_MV yX10_nearest cX10_nearest 3 (some .int) 0 10 := ⟨⟨gm_t4 (i := 50) rfl rfl, gm_t1 (i := 1) rfl rfl, ⟨by decide, by decide, by decide +kernel⟩⟩, gm_t4 (i := 48) rfl rfl, gm_t4 (i := 49) rfl rfl, rfl, by decide⟩
set_option maxRecDepth 100000 in
theorem mm_X10_pointer : gm_MV yX10_pointer cX10_pointer 3 (some .int) 1 10 := ⟨⟨gm_t4 (i := 54) rfl rfl, gm_t1 (i := 1) rfl rfl, ⟨by decide, by decide, by decide +kernel⟩⟩, gm_t4 (i := 53) rfl rfl, gm_pv (i := 21) rfl rfl, rfl, by decide⟩
set_option maxRecDepth 100000 in
theorem mm_X10_canCount : gm_MV yX10_canCount cX10_canCount 2 (some .boolean) 1 10 := ⟨⟨gm_t4 (i := 63) rfl rfl, gm_t1 (i := 1) rfl rfl, ⟨by decide, by decide, by decide +kernel⟩⟩, gm_t4 (i := 62) rfl rfl, gm_pv (i := 22) rfl rfl, rfl, by decide⟩
set_option maxRecDepth 100000 in
theorem mm_X10_odds : gm_MV yX10_odds cX10_odds 3 (some .long) 2 10 := ⟨⟨gm_t4 (i := 59) rfl rfl, gm_t1 (i := 1) rfl rfl, ⟨by decide, by decide, by decide +kernel⟩⟩, gm_t4 (i := 57) rfl rfl, gm_t4 (i := 58) rfl rfl, rfl, by decide⟩
set_option maxRecDepth 100000 in
theorem mm_X10_out : gm_MV yX10_out cX10_out 2 (some .long) 1 10 := ⟨⟨gm_t4 (i := 69) rfl rfl, gm_t1 (i := 1) rfl rfl, ⟨by decide, by decide, by decide +kernel⟩⟩, gm_t4 (i := 67) rfl rfl, gm_t4 (i := 68) rfl rfl, rfl, by decide⟩
set_option maxRecDepth 100000 in
theorem mm_X10_likeliest : gm_MV yX10_likeliest cX10_likeliest 8 (some .int) 1 10 := ⟨⟨gm_t4 (i := 77) rfl rfl, gm_t1 (i := 1) rfl rfl, ⟨by decide, by decide, by decide +kernel⟩⟩, gm_t4 (i := 75) rfl rfl, gm_t4 (i := 76) rfl rfl, rfl, by decide⟩
set_option maxRecDepth 100000 in
theorem mm_X10_span : gm_MV yX10_span cX10_span 7 (some .int) 2 10 := ⟨⟨gm_t4 (i := 81) rfl rfl, gm_t1 (i := 1) rfl rfl, ⟨by decide, by decide, by decide +kernel⟩⟩, gm_t4 (i := 79) rfl rfl, gm_t4 (i := 80) rfl rfl, rfl, by decide⟩
set_option maxRecDepth 100000 in
theorem mm_X10_expect : gm_MV yX10_expect cX10_expect 7 (some .long) 2 10 := ⟨⟨gm_t4 (i := 85) rfl rfl, gm_t1 (i := 1) rfl rfl, ⟨by decide, by decide, by decide +kernel⟩⟩, gm_t4 (i := 83) rfl rfl, gm_t4 (i := 84) rfl rfl, rfl, by decide⟩
set_option maxRecDepth 100000 in
theorem mm_X10_copied : gm_MV yX10_copied cX10_copied 3 (some .long) 2 10 := ⟨⟨gm_t4 (i := 101) rfl rfl, gm_t1 (i := 1) rfl rfl, ⟨by decide, by decide, by decide +kernel⟩⟩, gm_t4 (i := 99) rfl rfl, gm_t4 (i := 100) rfl rfl, rfl, by decide⟩
set_option maxRecDepth 100000 in
theorem mm_X10_copier : gm_MV yX10_copier cX10_copier 8 (some .int) 1 10 := ⟨⟨gm_t4 (i := 109) rfl rfl, gm_t1 (i := 1) rfl rfl, ⟨by decide, by decide, by decide +kernel⟩⟩, gm_t4 (i := 107) rfl rfl, gm_t4 (i := 108) rfl rfl, rfl, by decide⟩
set_option maxRecDepth 100000 in
theorem mm_X10_chance : gm_MV yX10_chance cX10_chance 4 (some .long) 2 10 := ⟨⟨gm_t4 (i := 113) rfl rfl, gm_t1 (i := 1) rfl rfl, ⟨by decide, by decide, by decide +kernel⟩⟩, gm_t4 (i := 111) rfl rfl, gm_t4 (i := 112) rfl rfl, rfl, by decide⟩
set_option maxRecDepth 100000 in
theorem mm_X10_best : gm_MV yX10_best cX10_best 3 (some .long) 2 10 := ⟨⟨gm_t4 (i := 118) rfl rfl, gm_t1 (i := 1) rfl rfl, ⟨by decide, by decide, by decide +kernel⟩⟩, gm_t4 (i := 116) rfl rfl, gm_t4 (i := 117) rfl rfl, rfl, by decide⟩
set_option maxRecDepth 100000 in
theorem mm_X10_bestTwo : gm_MV yX10_bestTwo cX10_bestTwo 3 (some .long) 2 10 := ⟨⟨gm_t4 (i := 157) rfl rfl, gm_t1 (i := 1) rfl rfl, ⟨by decide, by decide, by decide +kernel⟩⟩, gm_t4 (i := 155) rfl rfl, gm_t4 (i := 156) rfl rfl, rfl, by decide⟩
set_option maxRecDepth 100000 in
theorem mm_X10_behind : gm_MV yX10_behind cX10_behind 4 (some .long) 2 10 := ⟨⟨gm_t4 (i := 171) rfl rfl, gm_t1 (i := 1) rfl rfl, ⟨by decide, by decide, by decide +kernel⟩⟩, gm_t4 (i := 169) rfl rfl, gm_t4 (i := 170) rfl rfl, rfl, by decide⟩
set_option maxRecDepth 100000 in
theorem mm_X10_waits : gm_MV yX10_waits cX10_waits 5 (some .long) 2 10 := ⟨⟨gm_t4 (i := 175) rfl rfl, gm_t1 (i := 1) rfl rfl, ⟨by decide, by decide, by decide +kernel⟩⟩, gm_t4 (i := 173) rfl rfl, gm_t4 (i := 174) rfl rfl, rfl, by decide⟩
set_option maxRecDepth 100000 in
theorem mm_X10_waysOf : gm_MV yX10_waysOf cX10_waysOf 4 (some .long) 2 10 := ⟨⟨gm_t4 (i := 179) rfl rfl, gm_t1 (i := 1) rfl rfl, ⟨by decide, by decide, by decide +kernel⟩⟩, gm_t4 (i := 177) rfl rfl, gm_t4 (i := 178) rfl rfl, rfl, by decide⟩
set_option maxRecDepth 100000 in
theorem mm_X10_shutIn : gm_MV yX10_shutIn cX10_shutIn 5 (some .long) 2 10 := ⟨⟨gm_t4 (i := 183) rfl rfl, gm_t1 (i := 1) rfl rfl, ⟨by decide, by decide, by decide +kernel⟩⟩, gm_t4 (i := 181) rfl rfl, gm_t4 (i := 182) rfl rfl, rfl, by decide⟩
set_option maxRecDepth 100000 in
theorem mm_X10_gain : gm_MV yX10_gain cX10_gain 3 (some .long) 2 10 := ⟨⟨gm_t4 (i := 187) rfl rfl, gm_t1 (i := 1) rfl rfl, ⟨by decide, by decide, by decide +kernel⟩⟩, gm_t4 (i := 185) rfl rfl, gm_t4 (i := 186) rfl rfl, rfl, by decide⟩
set_option maxRecDepth 100000 in
theorem mm_X10_gainOf : gm_MV yX10_gainOf cX10_gainOf 4 (some .long) 1 10 := ⟨⟨gm_t4 (i := 191) rfl rfl, gm_t1 (i := 1) rfl rfl, ⟨by decide, by decide, by decide +kernel⟩⟩, gm_t4 (i := 190) rfl rfl, gm_pv (i := 24) rfl rfl, rfl, by decide⟩
set_option maxRecDepth 100000 in
theorem mm_X10_buys : gm_MV yX10_buys cX10_buys 9 (some .int) 1 10 := ⟨⟨gm_t4 (i := 195) rfl rfl, gm_t1 (i := 1) rfl rfl, ⟨by decide, by decide, by decide +kernel⟩⟩, gm_t4 (i := 193) rfl rfl, gm_t4 (i := 194) rfl rfl, rfl, by decide⟩
set_option maxRecDepth 100000 in
theorem mm_X10_game : gm_MV yX10_game cX10_game 5 (some .int) 2 10 := ⟨⟨gm_t4 (i := 199) rfl rfl, gm_t1 (i := 1) rfl rfl, ⟨by decide, by decide, by decide +kernel⟩⟩, gm_t4 (i := 197) rfl rfl, gm_t4 (i := 198) rfl rfl, rfl, by decide⟩
set_option maxRecDepth 100000 in
theorem mm_X10_alone : gm_MV yX10_alone cX10_alone 5 (some .long) 3 10 := ⟨⟨gm_t4 (i := 203) rfl rfl, gm_t1 (i := 1) rfl rfl, ⟨by decide, by decide, by decide +kernel⟩⟩, gm_t4 (i := 201) rfl rfl, gm_t4 (i := 202) rfl rfl, rfl, by decide⟩
set_option maxRecDepth 100000 in
theorem mm_X10_fewest : gm_MV yX10_fewest cX10_fewest 5 (some .int) 3 10 := ⟨⟨gm_t4 (i := 221) rfl rfl, gm_t1 (i := 1) rfl rfl, ⟨by decide, by decide, by decide +kernel⟩⟩, gm_t4 (i := 219) rfl rfl, gm_t4 (i := 220) rfl rfl, rfl, by decide⟩
set_option maxRecDepth 100000 in
theorem mm_X10_fetes : gm_MV yX10_fetes cX10_fetes 8 (some .int) 5 10 := ⟨⟨gm_t4 (i := 226) rfl rfl, gm_t1 (i := 1) rfl rfl, ⟨by decide, by decide, by decide +kernel⟩⟩, gm_t4 (i := 224) rfl rfl, gm_t4 (i := 225) rfl rfl, rfl, by decide⟩
set_option maxRecDepth 100000 in
theorem mm_X10_toldOfTrial : gm_MV yX10_toldOfTrial cX10_toldOfTrial 5 (some .int) 1 10 := ⟨⟨gm_t4 (i := 230) rfl rfl, gm_t1 (i := 1) rfl rfl, ⟨by decide, by decide, by decide +kernel⟩⟩, gm_t4 (i := 229) rfl rfl, gm_pv (i := 25) rfl rfl, rfl, by decide⟩
set_option maxRecDepth 100000 in
theorem mm_X10_holds : gm_MV yX10_holds cX10_holds 4 (some .int) 3 10 := ⟨⟨gm_t4 (i := 234) rfl rfl, gm_t1 (i := 1) rfl rfl, ⟨by decide, by decide, by decide +kernel⟩⟩, gm_t4 (i := 232) rfl rfl, gm_t4 (i := 233) rfl rfl, rfl, by decide⟩
set_option maxRecDepth 100000 in
theorem mm_X10_layersFor : gm_MV yX10_layersFor cX10_layersFor 5 (some .int) 3 10 := ⟨⟨gm_t5 (i := 4) rfl rfl, gm_t1 (i := 1) rfl rfl, ⟨by decide, by decide, by decide +kernel⟩⟩, gm_t5 (i := 2) rfl rfl, gm_t5 (i := 3) rfl rfl, rfl, by decide⟩
set_option maxRecDepth 100000 in
theorem mm_X10_isGlass : gm_MS yX10_isGlass cX10_isGlass 2 (some .boolean) 2 := ⟨⟨gm_t4 (i := 237) rfl rfl, gm_t1 (i := 1) rfl rfl, ⟨by decide, by decide, by decide +kernel⟩⟩, gm_t4 (i := 236) rfl rfl⟩
set_option maxRecDepth 100000 in
theorem mm_X10_filled : gm_MS yX10_filled cX10_filled 5 (some .int) 3 := ⟨⟨gm_t5 (i := 0) rfl rfl, gm_t1 (i := 1) rfl rfl, ⟨by decide, by decide, by decide +kernel⟩⟩, gm_t4 (i := 239) rfl rfl⟩
set_option maxRecDepth 100000 in
theorem mm_X10_isRow : gm_MS yX10_isRow cX10_isRow 1 (some .boolean) 1 := ⟨⟨gm_t3 (i := 132) rfl rfl, gm_t1 (i := 1) rfl rfl, ⟨by decide, by decide, by decide +kernel⟩⟩, gm_t3 (i := 131) rfl rfl⟩
set_option maxRecDepth 100000 in
theorem mm_X10_isImage : gm_MS yX10_isImage cX10_isImage 1 (some .boolean) 1 := ⟨⟨gm_t5 (i := 37) rfl rfl, gm_t1 (i := 1) rfl rfl, ⟨by decide, by decide, by decide +kernel⟩⟩, gm_t5 (i := 36) rfl rfl⟩
set_option maxRecDepth 100000 in
theorem mm_X10_numbers : gm_MV yX10_numbers cX10_numbers 4 (some .int) 3 10 := ⟨⟨gm_t5 (i := 8) rfl rfl, gm_t1 (i := 1) rfl rfl, ⟨by decide, by decide, by decide +kernel⟩⟩, gm_t5 (i := 6) rfl rfl, gm_t5 (i := 7) rfl rfl, rfl, by decide⟩
set_option maxRecDepth 100000 in
theorem mm_X10_put : gm_MV yX10_put cX10_put 6 (some .long) 3 10 := ⟨⟨gm_t5 (i := 16) rfl rfl, gm_t1 (i := 1) rfl rfl, ⟨by decide, by decide, by decide +kernel⟩⟩, gm_t5 (i := 14) rfl rfl, gm_t5 (i := 15) rfl rfl, rfl, by decide⟩
set_option maxRecDepth 100000 in
theorem mm_X10_copy : gm_MV yX10_copy cX10_copy 5 (some .int) 1 10 := ⟨⟨gm_t5 (i := 30) rfl rfl, gm_t1 (i := 1) rfl rfl, ⟨by decide, by decide, by decide +kernel⟩⟩, gm_t5 (i := 28) rfl rfl, gm_t5 (i := 29) rfl rfl, rfl, by decide⟩
set_option maxRecDepth 100000 in
theorem mm_X10_image : gm_MV yX10_image cX10_image 2 (some .int) 1 10 := ⟨⟨gm_t5 (i := 34) rfl rfl, gm_t1 (i := 1) rfl rfl, ⟨by decide, by decide, by decide +kernel⟩⟩, gm_t5 (i := 32) rfl rfl, gm_t5 (i := 33) rfl rfl, rfl, by decide⟩
set_option maxRecDepth 100000 in
theorem mm_X10_restore : gm_MV yX10_restore cX10_restore 2 (some .int) 1 10 := ⟨⟨gm_t5 (i := 46) rfl rfl, gm_t1 (i := 1) rfl rfl, ⟨by decide, by decide, by decide +kernel⟩⟩, gm_t5 (i := 44) rfl rfl, gm_t5 (i := 45) rfl rfl, rfl, by decide⟩
set_option maxRecDepth 100000 in
theorem mm_X10_count : gm_MV yX10_count cX10_count 2 (some .int) 1 10 := ⟨⟨gm_t5 (i := 50) rfl rfl, gm_t1 (i := 1) rfl rfl, ⟨by decide, by decide, by decide +kernel⟩⟩, gm_t5 (i := 48) rfl rfl, gm_t5 (i := 49) rfl rfl, rfl, by decide⟩
set_option maxRecDepth 100000 in
theorem mm_X11_within : gm_MS yX11_within cX11_within 6 (some .boolean) 3 := ⟨⟨gm_t5 (i := 173) rfl rfl, gm_t1 (i := 12) rfl rfl, ⟨by decide, by decide, by decide +kernel⟩⟩, gm_t5 (i := 172) rfl rfl⟩
set_option maxRecDepth 100000 in
theorem mm_X11_init : gm_MI yX11_init cX11_init 1 0 := ⟨⟨gm_t5 (i := 60) rfl rfl, gm_t1 (i := 12) rfl rfl, ⟨by decide, by decide, by decide +kernel⟩⟩, gm_t5 (i := 59) rfl rfl, rfl⟩
set_option maxRecDepth 100000 in
theorem mm_X11_plain : gm_MS yX11_plain cX11_plain 2 none 1 := ⟨⟨gm_t5 (i := 64) rfl rfl, gm_t1 (i := 12) rfl rfl, ⟨by decide, by decide, by decide +kernel⟩⟩, gm_t5 (i := 63) rfl rfl⟩
set_option maxRecDepth 100000 in
theorem mm_X11_feed : gm_MV yX11_feed cX11_feed 8 (some .int) 5 11 := ⟨⟨gm_t5 (i := 166) rfl rfl, gm_t1 (i := 12) rfl rfl, ⟨by decide, by decide, by decide +kernel⟩⟩, gm_t5 (i := 164) rfl rfl, gm_t5 (i := 165) rfl rfl, rfl, by decide⟩
set_option maxRecDepth 100000 in
theorem mm_X11_see : gm_MV yX11_see cX11_see 2 (some .int) 1 11 := ⟨⟨gm_t5 (i := 181) rfl rfl, gm_t1 (i := 12) rfl rfl, ⟨by decide, by decide, by decide +kernel⟩⟩, gm_t5 (i := 180) rfl rfl, gm_pv (i := 28) rfl rfl, rfl, by decide⟩
set_option maxRecDepth 100000 in
theorem mm_X11_isSmall : gm_MS yX11_isSmall cX11_isSmall 1 (some .boolean) 1 := ⟨⟨gm_t5 (i := 184) rfl rfl, gm_t1 (i := 12) rfl rfl, ⟨by decide, by decide, by decide +kernel⟩⟩, gm_t5 (i := 183) rfl rfl⟩
set_option maxRecDepth 100000 in
theorem mm_X11_isDigit : gm_MS yX11_isDigit cX11_isDigit 1 (some .boolean) 1 := ⟨⟨gm_t5 (i := 194) rfl rfl, gm_t1 (i := 12) rfl rfl, ⟨by decide, by decide, by decide +kernel⟩⟩, gm_t5 (i := 193) rfl rfl⟩
set_option maxRecDepth 100000 in
theorem mm_X11_keyAt : gm_MV yX11_keyAt cX11_keyAt 4 (some .int) 0 11 := ⟨⟨gm_t5 (i := 188) rfl rfl, gm_t1 (i := 12) rfl rfl, ⟨by decide, by decide, by decide +kernel⟩⟩, gm_t5 (i := 187) rfl rfl, gm_pv (i := 29) rfl rfl, rfl, by decide⟩
set_option maxRecDepth 100000 in
theorem mm_X11_next : gm_MV yX11_next cX11_next 1 none 0 11 := ⟨⟨gm_t5 (i := 177) rfl rfl, gm_t1 (i := 12) rfl rfl, ⟨by decide, by decide, by decide +kernel⟩⟩, gm_t5 (i := 176) rfl rfl, gm_pv (i := 27) rfl rfl, rfl, by decide⟩
set_option maxRecDepth 100000 in
theorem mm_X11_fails : gm_MV yX11_fails cX11_fails 2 none 1 11 := ⟨⟨gm_t5 (i := 214) rfl rfl, gm_t1 (i := 12) rfl rfl, ⟨by decide, by decide, by decide +kernel⟩⟩, gm_t5 (i := 213) rfl rfl, gm_pv (i := 34) rfl rfl, rfl, by decide⟩
set_option maxRecDepth 100000 in
theorem mm_X11_is : gm_MV yX11_is cX11_is 2 (some .boolean) 1 11 := ⟨⟨gm_t5 (i := 206) rfl rfl, gm_t1 (i := 12) rfl rfl, ⟨by decide, by decide, by decide +kernel⟩⟩, gm_t5 (i := 205) rfl rfl, gm_pv (i := 32) rfl rfl, rfl, by decide⟩
set_option maxRecDepth 100000 in
theorem mm_X11_eats : gm_MV yX11_eats cX11_eats 2 (some .boolean) 1 11 := ⟨⟨gm_t5 (i := 202) rfl rfl, gm_t1 (i := 12) rfl rfl, ⟨by decide, by decide, by decide +kernel⟩⟩, gm_t5 (i := 201) rfl rfl, gm_pv (i := 31) rfl rfl, rfl, by decide⟩
set_option maxRecDepth 100000 in
theorem mm_X11_takes : gm_MV yX11_takes cX11_takes 4 (some .int) 2 11 := ⟨⟨gm_t5 (i := 210) rfl rfl, gm_t1 (i := 12) rfl rfl, ⟨by decide, by decide, by decide +kernel⟩⟩, gm_t5 (i := 209) rfl rfl, gm_pv (i := 33) rfl rfl, rfl, by decide⟩
set_option maxRecDepth 100000 in
theorem mm_X11_readGuesser : gm_MV yX11_readGuesser cX11_readGuesser 5 none 0 11 := ⟨⟨gm_t5 (i := 218) rfl rfl, gm_t1 (i := 12) rfl rfl, ⟨by decide, by decide, by decide +kernel⟩⟩, gm_t5 (i := 217) rfl rfl, gm_pv (i := 35) rfl rfl, rfl, by decide⟩
set_option maxRecDepth 100000 in
theorem mm_X11_readLine : gm_MV yX11_readLine cX11_readLine 1 none 0 11 := ⟨⟨gm_t5 (i := 198) rfl rfl, gm_t1 (i := 12) rfl rfl, ⟨by decide, by decide, by decide +kernel⟩⟩, gm_t5 (i := 197) rfl rfl, gm_pv (i := 30) rfl rfl, rfl, by decide⟩
set_option maxRecDepth 100000 in
theorem mm_X11_fete : gm_MV yX11_fete cX11_fete 3 (some .int) 1 11 := ⟨⟨gm_t5 (i := 170) rfl rfl, gm_t1 (i := 12) rfl rfl, ⟨by decide, by decide, by decide +kernel⟩⟩, gm_t5 (i := 168) rfl rfl, gm_t5 (i := 169) rfl rfl, rfl, by decide⟩
set_option maxRecDepth 100000 in
theorem mm_X11_fault : gm_MV yX11_fault cX11_fault 2 (some .int) 1 11 := ⟨⟨gm_t5 (i := 222) rfl rfl, gm_t1 (i := 12) rfl rfl, ⟨by decide, by decide, by decide +kernel⟩⟩, gm_t5 (i := 220) rfl rfl, gm_t5 (i := 221) rfl rfl, rfl, by decide⟩
set_option maxRecDepth 100000 in
theorem mm_X11_isGuesser : gm_MV yX11_isGuesser cX11_isGuesser 3 (some .boolean) 1 11 := ⟨⟨gm_t5 (i := 230) rfl rfl, gm_t1 (i := 12) rfl rfl, ⟨by decide, by decide, by decide +kernel⟩⟩, gm_t5 (i := 229) rfl rfl, gm_pv (i := 36) rfl rfl, rfl, by decide⟩
set_option maxRecDepth 100000 in
theorem mm_X11_isGuess : gm_MV yX11_isGuess cX11_isGuess 2 (some .boolean) 1 11 := ⟨⟨gm_t6 (i := 48) rfl rfl, gm_t1 (i := 12) rfl rfl, ⟨by decide, by decide, by decide +kernel⟩⟩, gm_t6 (i := 47) rfl rfl, gm_pv (i := 43) rfl rfl, rfl, by decide⟩
set_option maxRecDepth 100000 in
theorem mm_X11_isGrid : gm_MV yX11_isGrid cX11_isGrid 2 (some .boolean) 1 11 := ⟨⟨gm_t6 (i := 16) rfl rfl, gm_t1 (i := 12) rfl rfl, ⟨by decide, by decide, by decide +kernel⟩⟩, gm_t6 (i := 15) rfl rfl, gm_pv (i := 40) rfl rfl, rfl, by decide⟩
set_option maxRecDepth 100000 in
theorem mm_X11_off : gm_MS yX11_off cX11_off 2 (some .int) 2 := ⟨⟨gm_t6 (i := 23) rfl rfl, gm_t1 (i := 12) rfl rfl, ⟨by decide, by decide, by decide +kernel⟩⟩, gm_t6 (i := 22) rfl rfl⟩
set_option maxRecDepth 100000 in
theorem mm_X11_numberOf : gm_MV yX11_numberOf cX11_numberOf 2 (some .int) 1 11 := ⟨⟨gm_t6 (i := 52) rfl rfl, gm_t1 (i := 12) rfl rfl, ⟨by decide, by decide, by decide +kernel⟩⟩, gm_t6 (i := 51) rfl rfl, gm_pv (i := 44) rfl rfl, rfl, by decide⟩
set_option maxRecDepth 100000 in
theorem mm_X11_guessesOf : gm_MV yX11_guessesOf cX11_guessesOf 4 (some .int) 1 11 := ⟨⟨gm_t5 (i := 235) rfl rfl, gm_t1 (i := 12) rfl rfl, ⟨by decide, by decide, by decide +kernel⟩⟩, gm_t5 (i := 234) rfl rfl, gm_pv (i := 37) rfl rfl, rfl, by decide⟩
set_option maxRecDepth 100000 in
theorem mm_X11_latestOf : gm_MV yX11_latestOf cX11_latestOf 3 (some .int) 1 11 := ⟨⟨gm_t5 (i := 239) rfl rfl, gm_t1 (i := 12) rfl rfl, ⟨by decide, by decide, by decide +kernel⟩⟩, gm_t5 (i := 238) rfl rfl, gm_pv (i := 38) rfl rfl, rfl, by decide⟩
set_option maxRecDepth 100000 in
theorem mm_X11_guesser : gm_MV yX11_guesser cX11_guesser 3 (some .int) 2 11 := ⟨⟨gm_t5 (i := 226) rfl rfl, gm_t1 (i := 12) rfl rfl, ⟨by decide, by decide, by decide +kernel⟩⟩, gm_t5 (i := 224) rfl rfl, gm_t5 (i := 225) rfl rfl, rfl, by decide⟩
set_option maxRecDepth 100000 in
theorem mm_X11_sightOf : gm_MV yX11_sightOf cX11_sightOf 3 (some .int) 2 11 := ⟨⟨gm_t6 (i := 8) rfl rfl, gm_t1 (i := 12) rfl rfl, ⟨by decide, by decide, by decide +kernel⟩⟩, gm_t6 (i := 7) rfl rfl, gm_pv (i := 39) rfl rfl, rfl, by decide⟩
set_option maxRecDepth 100000 in
theorem mm_X11_sight : gm_MV yX11_sight cX11_sight 3 (some .int) 2 11 := ⟨⟨gm_t6 (i := 3) rfl rfl, gm_t1 (i := 12) rfl rfl, ⟨by decide, by decide, by decide +kernel⟩⟩, gm_t6 (i := 1) rfl rfl, gm_t6 (i := 2) rfl rfl, rfl, by decide⟩
set_option maxRecDepth 100000 in
theorem mm_X11_weightOf : gm_MV yX11_weightOf cX11_weightOf 3 (some .int) 1 11 := ⟨⟨gm_t6 (i := 20) rfl rfl, gm_t1 (i := 12) rfl rfl, ⟨by decide, by decide, by decide +kernel⟩⟩, gm_t6 (i := 19) rfl rfl, gm_pv (i := 41) rfl rfl, rfl, by decide⟩
set_option maxRecDepth 100000 in
theorem mm_X11_weight : gm_MV yX11_weight cX11_weight 2 (some .int) 1 11 := ⟨⟨gm_t6 (i := 12) rfl rfl, gm_t1 (i := 12) rfl rfl, ⟨by decide, by decide, by decide +kernel⟩⟩, gm_t6 (i := 10) rfl rfl, gm_t6 (i := 11) rfl rfl, rfl, by decide⟩
set_option maxRecDepth 100000 in
theorem mm_X11_jar : gm_MV yX11_jar cX11_jar 3 (some .int) 1 11 := ⟨⟨gm_t6 (i := 27) rfl rfl, gm_t1 (i := 12) rfl rfl, ⟨by decide, by decide, by decide +kernel⟩⟩, gm_t6 (i := 25) rfl rfl, gm_t6 (i := 26) rfl rfl, rfl, by decide⟩
set_option maxRecDepth 100000 in
theorem mm_X11_meanOf : gm_MV yX11_meanOf cX11_meanOf 4 (some .int) 1 11 := ⟨⟨gm_t6 (i := 60) rfl rfl, gm_t1 (i := 12) rfl rfl, ⟨by decide, by decide, by decide +kernel⟩⟩, gm_t6 (i := 59) rfl rfl, gm_pv (i := 46) rfl rfl, rfl, by decide⟩
set_option maxRecDepth 100000 in
theorem mm_X11_goalAt : gm_MV yX11_goalAt cX11_goalAt 2 (some .int) 1 11 := ⟨⟨gm_t6 (i := 56) rfl rfl, gm_t1 (i := 12) rfl rfl, ⟨by decide, by decide, by decide +kernel⟩⟩, gm_t6 (i := 55) rfl rfl, gm_pv (i := 45) rfl rfl, rfl, by decide⟩
set_option maxRecDepth 100000 in
theorem mm_X11_adds : gm_MV yX11_adds cX11_adds 3 none 2 11 := ⟨⟨gm_t6 (i := 36) rfl rfl, gm_t1 (i := 12) rfl rfl, ⟨by decide, by decide, by decide +kernel⟩⟩, gm_t6 (i := 35) rfl rfl, gm_pv (i := 42) rfl rfl, rfl, by decide⟩
set_option maxRecDepth 100000 in
theorem mm_X11_write : gm_MV yX11_write cX11_write 3 (some .int) 2 11 := ⟨⟨gm_t6 (i := 31) rfl rfl, gm_t1 (i := 12) rfl rfl, ⟨by decide, by decide, by decide +kernel⟩⟩, gm_t6 (i := 29) rfl rfl, gm_t6 (i := 30) rfl rfl, rfl, by decide⟩
set_option maxRecDepth 100000 in
theorem mm_X11_strike : gm_MV yX11_strike cX11_strike 2 (some .int) 1 11 := ⟨⟨gm_t6 (i := 40) rfl rfl, gm_t1 (i := 12) rfl rfl, ⟨by decide, by decide, by decide +kernel⟩⟩, gm_t6 (i := 38) rfl rfl, gm_t6 (i := 39) rfl rfl, rfl, by decide⟩
set_option maxRecDepth 100000 in
theorem mm_X11_list : gm_MV yX11_list cX11_list 4 (some .int) 2 11 := ⟨⟨gm_t6 (i := 44) rfl rfl, gm_t1 (i := 12) rfl rfl, ⟨by decide, by decide, by decide +kernel⟩⟩, gm_t6 (i := 42) rfl rfl, gm_t6 (i := 43) rfl rfl, rfl, by decide⟩
set_option maxRecDepth 100000 in
theorem mm_X11_keeps : gm_MV yX11_keeps cX11_keeps 2 none 0 11 := ⟨⟨gm_t6 (i := 70) rfl rfl, gm_t1 (i := 12) rfl rfl, ⟨by decide, by decide, by decide +kernel⟩⟩, gm_t6 (i := 69) rfl rfl, gm_pv (i := 47) rfl rfl, rfl, by decide⟩
set_option maxRecDepth 100000 in
theorem mm_X11_isAgain : gm_MV yX11_isAgain cX11_isAgain 2 none 0 11 := ⟨⟨gm_t6 (i := 79) rfl rfl, gm_t1 (i := 12) rfl rfl, ⟨by decide, by decide, by decide +kernel⟩⟩, gm_t6 (i := 78) rfl rfl, gm_pv (i := 49) rfl rfl, rfl, by decide⟩
set_option maxRecDepth 100000 in
theorem mm_X11_writesAll : gm_MV yX11_writesAll cX11_writesAll 5 (some .int) 1 11 := ⟨⟨gm_t6 (i := 74) rfl rfl, gm_t1 (i := 12) rfl rfl, ⟨by decide, by decide, by decide +kernel⟩⟩, gm_t6 (i := 73) rfl rfl, gm_pv (i := 48) rfl rfl, rfl, by decide⟩
set_option maxRecDepth 100000 in
theorem mm_X11_judge : gm_MV yX11_judge cX11_judge 5 (some .int) 2 11 := ⟨⟨gm_t6 (i := 64) rfl rfl, gm_t1 (i := 12) rfl rfl, ⟨by decide, by decide, by decide +kernel⟩⟩, gm_t6 (i := 62) rfl rfl, gm_t6 (i := 63) rfl rfl, rfl, by decide⟩
set_option maxRecDepth 100000 in
theorem mm_X11_perform : gm_MV yX11_perform cX11_perform 2 (some .int) 1 11 := ⟨⟨gm_t6 (i := 83) rfl rfl, gm_t1 (i := 12) rfl rfl, ⟨by decide, by decide, by decide +kernel⟩⟩, gm_t6 (i := 81) rfl rfl, gm_t6 (i := 82) rfl rfl, rfl, by decide⟩
set_option maxRecDepth 100000 in
theorem mm_X11_draw : gm_MV yX11_draw cX11_draw 2 (some .int) 1 11 := ⟨⟨gm_t6 (i := 96) rfl rfl, gm_t1 (i := 12) rfl rfl, ⟨by decide, by decide, by decide +kernel⟩⟩, gm_t6 (i := 95) rfl rfl, gm_pv (i := 51) rfl rfl, rfl, by decide⟩
set_option maxRecDepth 100000 in
theorem mm_X11_comes : gm_MV yX11_comes cX11_comes 4 none 0 11 := ⟨⟨gm_t6 (i := 92) rfl rfl, gm_t1 (i := 12) rfl rfl, ⟨by decide, by decide, by decide +kernel⟩⟩, gm_t6 (i := 91) rfl rfl, gm_pv (i := 50) rfl rfl, rfl, by decide⟩
set_option maxRecDepth 100000 in
theorem mm_X11_come : gm_MV yX11_come cX11_come 4 (some .int) 2 11 := ⟨⟨gm_t6 (i := 87) rfl rfl, gm_t1 (i := 12) rfl rfl, ⟨by decide, by decide, by decide +kernel⟩⟩, gm_t6 (i := 85) rfl rfl, gm_t6 (i := 86) rfl rfl, rfl, by decide⟩
set_option maxRecDepth 100000 in
theorem mm_X11_leaderFor : gm_MV yX11_leaderFor cX11_leaderFor 4 (some .int) 1 11 := ⟨⟨gm_t6 (i := 105) rfl rfl, gm_t1 (i := 12) rfl rfl, ⟨by decide, by decide, by decide +kernel⟩⟩, gm_t6 (i := 104) rfl rfl, gm_pv (i := 52) rfl rfl, rfl, by decide⟩
set_option maxRecDepth 100000 in
theorem mm_X11_leader : gm_MV yX11_leader cX11_leader 2 (some .int) 1 11 := ⟨⟨gm_t6 (i := 101) rfl rfl, gm_t1 (i := 12) rfl rfl, ⟨by decide, by decide, by decide +kernel⟩⟩, gm_t6 (i := 99) rfl rfl, gm_t6 (i := 100) rfl rfl, rfl, by decide⟩
set_option maxRecDepth 100000 in
theorem mm_X11_winner : gm_MV yX11_winner cX11_winner 1 (some .int) 0 11 := ⟨⟨gm_t6 (i := 109) rfl rfl, gm_t1 (i := 12) rfl rfl, ⟨by decide, by decide, by decide +kernel⟩⟩, gm_t6 (i := 107) rfl rfl, gm_t6 (i := 108) rfl rfl, rfl, by decide⟩
set_option maxRecDepth 100000 in
theorem mm_X11_wins : gm_MV yX11_wins cX11_wins 8 (some .int) 2 11 := ⟨⟨gm_t6 (i := 113) rfl rfl, gm_t1 (i := 12) rfl rfl, ⟨by decide, by decide, by decide +kernel⟩⟩, gm_t6 (i := 111) rfl rfl, gm_t6 (i := 112) rfl rfl, rfl, by decide⟩
set_option maxRecDepth 100000 in
theorem mm_X11_ranked : gm_MV yX11_ranked cX11_ranked 6 (some .int) 1 11 := ⟨⟨gm_t6 (i := 121) rfl rfl, gm_t1 (i := 12) rfl rfl, ⟨by decide, by decide, by decide +kernel⟩⟩, gm_t6 (i := 120) rfl rfl, gm_pv (i := 53) rfl rfl, rfl, by decide⟩
set_option maxRecDepth 100000 in
theorem mm_X11_nine : gm_MV yX11_nine cX11_nine 1 (some .int) 0 11 := ⟨⟨gm_t6 (i := 125) rfl rfl, gm_t1 (i := 12) rfl rfl, ⟨by decide, by decide, by decide +kernel⟩⟩, gm_t6 (i := 124) rfl rfl, gm_pv (i := 54) rfl rfl, rfl, by decide⟩
set_option maxRecDepth 100000 in
theorem mm_X11_mean : gm_MV yX11_mean cX11_mean 3 (some .int) 1 11 := ⟨⟨gm_t6 (i := 117) rfl rfl, gm_t1 (i := 12) rfl rfl, ⟨by decide, by decide, by decide +kernel⟩⟩, gm_t6 (i := 115) rfl rfl, gm_t6 (i := 116) rfl rfl, rfl, by decide⟩
set_option maxRecDepth 100000 in
theorem mm_X11_nearest : gm_MV yX11_nearest cX11_nearest 5 (some .int) 0 11 := ⟨⟨gm_t6 (i := 129) rfl rfl, gm_t1 (i := 12) rfl rfl, ⟨by decide, by decide, by decide +kernel⟩⟩, gm_t6 (i := 127) rfl rfl, gm_t6 (i := 128) rfl rfl, rfl, by decide⟩
set_option maxRecDepth 100000 in
theorem mm_X11_isOwn : gm_MV yX11_isOwn cX11_isOwn 3 (some .boolean) 2 11 := ⟨⟨gm_t6 (i := 158) rfl rfl, gm_t1 (i := 12) rfl rfl, ⟨by decide, by decide, by decide +kernel⟩⟩, gm_t6 (i := 157) rfl rfl, gm_pv (i := 60) rfl rfl, rfl, by decide⟩
set_option maxRecDepth 100000 in
theorem mm_X11_byGoal : gm_MV yX11_byGoal cX11_byGoal 3 (some .long) 1 11 := ⟨⟨gm_t6 (i := 150) rfl rfl, gm_t1 (i := 12) rfl rfl, ⟨by decide, by decide, by decide +kernel⟩⟩, gm_t6 (i := 149) rfl rfl, gm_pv (i := 58) rfl rfl, rfl, by decide⟩
set_option maxRecDepth 100000 in
theorem mm_X11_chanceOf : gm_MV yX11_chanceOf cX11_chanceOf 4 (some .long) 2 11 := ⟨⟨gm_t6 (i := 154) rfl rfl, gm_t1 (i := 12) rfl rfl, ⟨by decide, by decide, by decide +kernel⟩⟩, gm_t6 (i := 153) rfl rfl, gm_pv (i := 59) rfl rfl, rfl, by decide⟩
set_option maxRecDepth 100000 in
theorem mm_X11_gridMany : gm_MV yX11_gridMany cX11_gridMany 1 (some .int) 0 11 := ⟨⟨gm_t6 (i := 146) rfl rfl, gm_t1 (i := 12) rfl rfl, ⟨by decide, by decide, by decide +kernel⟩⟩, gm_t6 (i := 145) rfl rfl, gm_pv (i := 57) rfl rfl, rfl, by decide⟩
set_option maxRecDepth 100000 in
theorem mm_X11_laysWays : gm_MV yX11_laysWays cX11_laysWays 6 none 2 11 := ⟨⟨gm_t6 (i := 142) rfl rfl, gm_t1 (i := 12) rfl rfl, ⟨by decide, by decide, by decide +kernel⟩⟩, gm_t6 (i := 141) rfl rfl, gm_pv (i := 56) rfl rfl, rfl, by decide⟩
set_option maxRecDepth 100000 in
theorem mm_X11_isMany : gm_MV yX11_isMany cX11_isMany 2 (some .boolean) 1 11 := ⟨⟨gm_t6 (i := 137) rfl rfl, gm_t1 (i := 12) rfl rfl, ⟨by decide, by decide, by decide +kernel⟩⟩, gm_t6 (i := 136) rfl rfl, gm_pv (i := 55) rfl rfl, rfl, by decide⟩
set_option maxRecDepth 100000 in
theorem mm_X11_odds : gm_MV yX11_odds cX11_odds 3 (some .long) 2 11 := ⟨⟨gm_t6 (i := 133) rfl rfl, gm_t1 (i := 12) rfl rfl, ⟨by decide, by decide, by decide +kernel⟩⟩, gm_t6 (i := 131) rfl rfl, gm_t6 (i := 132) rfl rfl, rfl, by decide⟩
set_option maxRecDepth 100000 in
theorem mm_X11_out : gm_MV yX11_out cX11_out 2 (some .long) 1 11 := ⟨⟨gm_t6 (i := 162) rfl rfl, gm_t1 (i := 12) rfl rfl, ⟨by decide, by decide, by decide +kernel⟩⟩, gm_t6 (i := 160) rfl rfl, gm_t6 (i := 161) rfl rfl, rfl, by decide⟩
set_option maxRecDepth 100000 in
theorem mm_X11_likeliest : gm_MV yX11_likeliest cX11_likeliest 4 (some .int) 1 11 := ⟨⟨gm_t6 (i := 166) rfl rfl, gm_t1 (i := 12) rfl rfl, ⟨by decide, by decide, by decide +kernel⟩⟩, gm_t6 (i := 164) rfl rfl, gm_t6 (i := 165) rfl rfl, rfl, by decide⟩
set_option maxRecDepth 100000 in
theorem mm_X11_span : gm_MV yX11_span cX11_span 7 (some .int) 2 11 := ⟨⟨gm_t6 (i := 170) rfl rfl, gm_t1 (i := 12) rfl rfl, ⟨by decide, by decide, by decide +kernel⟩⟩, gm_t6 (i := 168) rfl rfl, gm_t6 (i := 169) rfl rfl, rfl, by decide⟩
set_option maxRecDepth 100000 in
theorem mm_X11_expect : gm_MV yX11_expect cX11_expect 9 (some .long) 2 11 := ⟨⟨gm_t6 (i := 174) rfl rfl, gm_t1 (i := 12) rfl rfl, ⟨by decide, by decide, by decide +kernel⟩⟩, gm_t6 (i := 172) rfl rfl, gm_t6 (i := 173) rfl rfl, rfl, by decide⟩
set_option maxRecDepth 100000 in
theorem mm_X11_copiedOf : gm_MV yX11_copiedOf cX11_copiedOf 3 (some .long) 2 11 := ⟨⟨gm_t6 (i := 184) rfl rfl, gm_t1 (i := 12) rfl rfl, ⟨by decide, by decide, by decide +kernel⟩⟩, gm_t6 (i := 183) rfl rfl, gm_pv (i := 61) rfl rfl, rfl, by decide⟩
set_option maxRecDepth 100000 in
theorem mm_X11_copied : gm_MV yX11_copied cX11_copied 3 (some .long) 2 11 := ⟨⟨gm_t6 (i := 180) rfl rfl, gm_t1 (i := 12) rfl rfl, ⟨by decide, by decide, by decide +kernel⟩⟩, gm_t6 (i := 178) rfl rfl, gm_t6 (i := 179) rfl rfl, rfl, by decide⟩
set_option maxRecDepth 100000 in
theorem mm_X11_copier : gm_MV yX11_copier cX11_copier 8 (some .int) 1 11 := ⟨⟨gm_t6 (i := 188) rfl rfl, gm_t1 (i := 12) rfl rfl, ⟨by decide, by decide, by decide +kernel⟩⟩, gm_t6 (i := 186) rfl rfl, gm_t6 (i := 187) rfl rfl, rfl, by decide⟩
set_option maxRecDepth 100000 in
theorem mm_X11_laysNear : gm_MV yX11_laysNear cX11_laysNear 3 none 0 11 := ⟨⟨gm_t6 (i := 200) rfl rfl, gm_t1 (i := 12) rfl rfl, ⟨by decide, by decide, by decide +kernel⟩⟩, gm_t6 (i := 199) rfl rfl, gm_pv (i := 63) rfl rfl, rfl, by decide⟩
set_option maxRecDepth 100000 in
theorem mm_X11_waysBy : gm_MV yX11_waysBy cX11_waysBy 8 (some .long) 3 11 := ⟨⟨gm_t6 (i := 204) rfl rfl, gm_t1 (i := 12) rfl rfl, ⟨by decide, by decide, by decide +kernel⟩⟩, gm_t6 (i := 203) rfl rfl, gm_pv (i := 64) rfl rfl, rfl, by decide⟩
set_option maxRecDepth 100000 in
theorem mm_X11_bestBy : gm_MV yX11_bestBy cX11_bestBy 8 (some .int) 1 11 := ⟨⟨gm_t6 (i := 212) rfl rfl, gm_t1 (i := 12) rfl rfl, ⟨by decide, by decide, by decide +kernel⟩⟩, gm_t6 (i := 211) rfl rfl, gm_pv (i := 65) rfl rfl, rfl, by decide⟩
set_option maxRecDepth 100000 in
theorem mm_X11_laysAll : gm_MV yX11_laysAll cX11_laysAll 2 (some .boolean) 1 11 := ⟨⟨gm_t6 (i := 196) rfl rfl, gm_t1 (i := 12) rfl rfl, ⟨by decide, by decide, by decide +kernel⟩⟩, gm_t6 (i := 195) rfl rfl, gm_pv (i := 62) rfl rfl, rfl, by decide⟩
set_option maxRecDepth 100000 in
theorem mm_X11_chance : gm_MV yX11_chance cX11_chance 3 (some .long) 2 11 := ⟨⟨gm_t6 (i := 192) rfl rfl, gm_t1 (i := 12) rfl rfl, ⟨by decide, by decide, by decide +kernel⟩⟩, gm_t6 (i := 190) rfl rfl, gm_t6 (i := 191) rfl rfl, rfl, by decide⟩
set_option maxRecDepth 100000 in
theorem mm_X11_best : gm_MV yX11_best cX11_best 4 (some .long) 2 11 := ⟨⟨gm_t6 (i := 208) rfl rfl, gm_t1 (i := 12) rfl rfl, ⟨by decide, by decide, by decide +kernel⟩⟩, gm_t6 (i := 206) rfl rfl, gm_t6 (i := 207) rfl rfl, rfl, by decide⟩
set_option maxRecDepth 100000 in
theorem mm_X11_waysByTwo : gm_MV yX11_waysByTwo cX11_waysByTwo 7 (some .long) 2 11 := ⟨⟨gm_t6 (i := 225) rfl rfl, gm_t1 (i := 12) rfl rfl, ⟨by decide, by decide, by decide +kernel⟩⟩, gm_t6 (i := 224) rfl rfl, gm_pv (i := 67) rfl rfl, rfl, by decide⟩
set_option maxRecDepth 100000 in
theorem mm_X11_laysTwo : gm_MV yX11_laysTwo cX11_laysTwo 7 (some .long) 0 11 := ⟨⟨gm_t6 (i := 221) rfl rfl, gm_t1 (i := 12) rfl rfl, ⟨by decide, by decide, by decide +kernel⟩⟩, gm_t6 (i := 220) rfl rfl, gm_pv (i := 66) rfl rfl, rfl, by decide⟩
set_option maxRecDepth 100000 in
theorem mm_X11_bestTwo : gm_MV yX11_bestTwo cX11_bestTwo 5 (some .long) 2 11 := ⟨⟨gm_t6 (i := 216) rfl rfl, gm_t1 (i := 12) rfl rfl, ⟨by decide, by decide, by decide +kernel⟩⟩, gm_t6 (i := 214) rfl rfl, gm_t6 (i := 215) rfl rfl, rfl, by decide⟩
set_option maxRecDepth 100000 in
theorem mm_X11_laysBehind : gm_MV yX11_laysBehind cX11_laysBehind 7 (some .long) 0 11 := ⟨⟨gm_t6 (i := 233) rfl rfl, gm_t1 (i := 12) rfl rfl, ⟨by decide, by decide, by decide +kernel⟩⟩, gm_t6 (i := 232) rfl rfl, gm_pv (i := 68) rfl rfl, rfl, by decide⟩
set_option maxRecDepth 100000 in
theorem mm_X11_behind : gm_MV yX11_behind cX11_behind 5 (some .long) 2 11 := ⟨⟨gm_t6 (i := 229) rfl rfl, gm_t1 (i := 12) rfl rfl, ⟨by decide, by decide, by decide +kernel⟩⟩, gm_t6 (i := 227) rfl rfl, gm_t6 (i := 228) rfl rfl, rfl, by decide⟩
set_option maxRecDepth 100000 in
theorem mm_X11_waits : gm_MV yX11_waits cX11_waits 6 (some .long) 2 11 := ⟨⟨gm_t6 (i := 237) rfl rfl, gm_t1 (i := 12) rfl rfl, ⟨by decide, by decide, by decide +kernel⟩⟩, gm_t6 (i := 235) rfl rfl, gm_t6 (i := 236) rfl rfl, rfl, by decide⟩
set_option maxRecDepth 100000 in
theorem mm_X11_waysOf : gm_MV yX11_waysOf cX11_waysOf 6 (some .long) 2 11 := ⟨⟨gm_t7 (i := 1) rfl rfl, gm_t1 (i := 12) rfl rfl, ⟨by decide, by decide, by decide +kernel⟩⟩, gm_t6 (i := 239) rfl rfl, gm_t7 (i := 0) rfl rfl, rfl, by decide⟩
set_option maxRecDepth 100000 in
theorem mm_X11_shutIn : gm_MV yX11_shutIn cX11_shutIn 4 (some .long) 2 11 := ⟨⟨gm_t7 (i := 5) rfl rfl, gm_t1 (i := 12) rfl rfl, ⟨by decide, by decide, by decide +kernel⟩⟩, gm_t7 (i := 3) rfl rfl, gm_t7 (i := 4) rfl rfl, rfl, by decide⟩
set_option maxRecDepth 100000 in
theorem mm_X11_gainOf : gm_MV yX11_gainOf cX11_gainOf 4 (some .long) 1 11 := ⟨⟨gm_t7 (i := 13) rfl rfl, gm_t1 (i := 12) rfl rfl, ⟨by decide, by decide, by decide +kernel⟩⟩, gm_t7 (i := 12) rfl rfl, gm_pv (i := 69) rfl rfl, rfl, by decide⟩
set_option maxRecDepth 100000 in
theorem mm_X11_gain : gm_MV yX11_gain cX11_gain 3 (some .long) 2 11 := ⟨⟨gm_t7 (i := 9) rfl rfl, gm_t1 (i := 12) rfl rfl, ⟨by decide, by decide, by decide +kernel⟩⟩, gm_t7 (i := 7) rfl rfl, gm_t7 (i := 8) rfl rfl, rfl, by decide⟩
set_option maxRecDepth 100000 in
theorem mm_X11_buys : gm_MV yX11_buys cX11_buys 4 (some .int) 1 11 := ⟨⟨gm_t7 (i := 17) rfl rfl, gm_t1 (i := 12) rfl rfl, ⟨by decide, by decide, by decide +kernel⟩⟩, gm_t7 (i := 15) rfl rfl, gm_t7 (i := 16) rfl rfl, rfl, by decide⟩
set_option maxRecDepth 100000 in
theorem mm_X11_weightFor : gm_MV yX11_weightFor cX11_weightFor 7 (some .int) 2 11 := ⟨⟨gm_t7 (i := 30) rfl rfl, gm_t1 (i := 12) rfl rfl, ⟨by decide, by decide, by decide +kernel⟩⟩, gm_t7 (i := 29) rfl rfl, gm_pv (i := 71) rfl rfl, rfl, by decide⟩
set_option maxRecDepth 100000 in
theorem mm_X11_writesOn : gm_MV yX11_writesOn cX11_writesOn 7 none 2 11 := ⟨⟨gm_t7 (i := 26) rfl rfl, gm_t1 (i := 12) rfl rfl, ⟨by decide, by decide, by decide +kernel⟩⟩, gm_t7 (i := 25) rfl rfl, gm_pv (i := 70) rfl rfl, rfl, by decide⟩
set_option maxRecDepth 100000 in
theorem mm_X11_game : gm_MV yX11_game cX11_game 3 (some .int) 2 11 := ⟨⟨gm_t7 (i := 21) rfl rfl, gm_t1 (i := 12) rfl rfl, ⟨by decide, by decide, by decide +kernel⟩⟩, gm_t7 (i := 19) rfl rfl, gm_t7 (i := 20) rfl rfl, rfl, by decide⟩
set_option maxRecDepth 100000 in
theorem mm_X11_aloneOf : gm_MV yX11_aloneOf cX11_aloneOf 8 (some .long) 3 11 := ⟨⟨gm_t7 (i := 40) rfl rfl, gm_t1 (i := 12) rfl rfl, ⟨by decide, by decide, by decide +kernel⟩⟩, gm_t7 (i := 39) rfl rfl, gm_pv (i := 72) rfl rfl, rfl, by decide⟩
set_option maxRecDepth 100000 in
theorem mm_X11_alone : gm_MV yX11_alone cX11_alone 4 (some .long) 3 11 := ⟨⟨gm_t7 (i := 34) rfl rfl, gm_t1 (i := 12) rfl rfl, ⟨by decide, by decide, by decide +kernel⟩⟩, gm_t7 (i := 32) rfl rfl, gm_t7 (i := 33) rfl rfl, rfl, by decide⟩
set_option maxRecDepth 100000 in
theorem mm_X11_fewest : gm_MV yX11_fewest cX11_fewest 7 (some .int) 3 11 := ⟨⟨gm_t7 (i := 44) rfl rfl, gm_t1 (i := 12) rfl rfl, ⟨by decide, by decide, by decide +kernel⟩⟩, gm_t7 (i := 42) rfl rfl, gm_t7 (i := 43) rfl rfl, rfl, by decide⟩
set_option maxRecDepth 100000 in
theorem mm_X11_fetes : gm_MV yX11_fetes cX11_fetes 12 (some .int) 5 11 := ⟨⟨gm_t7 (i := 49) rfl rfl, gm_t1 (i := 12) rfl rfl, ⟨by decide, by decide, by decide +kernel⟩⟩, gm_t7 (i := 47) rfl rfl, gm_t7 (i := 48) rfl rfl, rfl, by decide⟩
set_option maxRecDepth 100000 in
theorem mm_X11_holdsOf : gm_MS yX11_holdsOf cX11_holdsOf 4 (some .int) 3 := ⟨⟨gm_t7 (i := 58) rfl rfl, gm_t1 (i := 12) rfl rfl, ⟨by decide, by decide, by decide +kernel⟩⟩, gm_t7 (i := 57) rfl rfl⟩
set_option maxRecDepth 100000 in
theorem mm_X11_holds : gm_MV yX11_holds cX11_holds 4 (some .int) 3 11 := ⟨⟨gm_t7 (i := 54) rfl rfl, gm_t1 (i := 12) rfl rfl, ⟨by decide, by decide, by decide +kernel⟩⟩, gm_t7 (i := 52) rfl rfl, gm_t7 (i := 53) rfl rfl, rfl, by decide⟩
set_option maxRecDepth 100000 in
theorem mm_X11_layersFor : gm_MV yX11_layersFor cX11_layersFor 5 (some .int) 3 11 := ⟨⟨gm_t7 (i := 62) rfl rfl, gm_t1 (i := 12) rfl rfl, ⟨by decide, by decide, by decide +kernel⟩⟩, gm_t7 (i := 60) rfl rfl, gm_t7 (i := 61) rfl rfl, rfl, by decide⟩
set_option maxRecDepth 100000 in
theorem mm_X11_cut : gm_MS yX11_cut cX11_cut 3 (some .long) 2 := ⟨⟨gm_t7 (i := 76) rfl rfl, gm_t1 (i := 12) rfl rfl, ⟨by decide, by decide, by decide +kernel⟩⟩, gm_t7 (i := 75) rfl rfl⟩
set_option maxRecDepth 100000 in
theorem mm_X11_numbers : gm_MV yX11_numbers cX11_numbers 5 (some .int) 3 11 := ⟨⟨gm_t7 (i := 67) rfl rfl, gm_t1 (i := 12) rfl rfl, ⟨by decide, by decide, by decide +kernel⟩⟩, gm_t7 (i := 65) rfl rfl, gm_t7 (i := 66) rfl rfl, rfl, by decide⟩
set_option maxRecDepth 100000 in
theorem mm_X11_put : gm_MV yX11_put cX11_put 5 (some .long) 3 11 := ⟨⟨gm_t7 (i := 71) rfl rfl, gm_t1 (i := 12) rfl rfl, ⟨by decide, by decide, by decide +kernel⟩⟩, gm_t7 (i := 69) rfl rfl, gm_t7 (i := 70) rfl rfl, rfl, by decide⟩
set_option maxRecDepth 100000 in
theorem mm_X11_copy : gm_MV yX11_copy cX11_copy 4 (some .int) 1 11 := ⟨⟨gm_t7 (i := 80) rfl rfl, gm_t1 (i := 12) rfl rfl, ⟨by decide, by decide, by decide +kernel⟩⟩, gm_t7 (i := 78) rfl rfl, gm_t7 (i := 79) rfl rfl, rfl, by decide⟩
set_option maxRecDepth 100000 in
theorem mm_X11_image : gm_MV yX11_image cX11_image 3 (some .int) 1 11 := ⟨⟨gm_t7 (i := 84) rfl rfl, gm_t1 (i := 12) rfl rfl, ⟨by decide, by decide, by decide +kernel⟩⟩, gm_t7 (i := 82) rfl rfl, gm_t7 (i := 83) rfl rfl, rfl, by decide⟩
set_option maxRecDepth 100000 in
theorem mm_X11_restore : gm_MV yX11_restore cX11_restore 3 (some .int) 1 11 := ⟨⟨gm_t7 (i := 88) rfl rfl, gm_t1 (i := 12) rfl rfl, ⟨by decide, by decide, by decide +kernel⟩⟩, gm_t7 (i := 86) rfl rfl, gm_t7 (i := 87) rfl rfl, rfl, by decide⟩
set_option maxRecDepth 100000 in
theorem mm_X11_unlikeMany : gm_MV yX11_unlikeMany cX11_unlikeMany 4 (some .int) 0 11 := ⟨⟨gm_t7 (i := 96) rfl rfl, gm_t1 (i := 12) rfl rfl, ⟨by decide, by decide, by decide +kernel⟩⟩, gm_t7 (i := 95) rfl rfl, gm_pv (i := 73) rfl rfl, rfl, by decide⟩
set_option maxRecDepth 100000 in
theorem mm_X11_count : gm_MV yX11_count cX11_count 2 (some .int) 1 11 := ⟨⟨gm_t7 (i := 92) rfl rfl, gm_t1 (i := 12) rfl rfl, ⟨by decide, by decide, by decide +kernel⟩⟩, gm_t7 (i := 90) rfl rfl, gm_t7 (i := 91) rfl rfl, rfl, by decide⟩
set_option maxRecDepth 100000 in
theorem mm_J9_abs_0f7a4 : gm_MS yJ9_abs_0f7a4 cJ9_abs_0f7a4 1 (some .int) 1 := ⟨⟨gm_t3 (i := 78) rfl rfl, gm_t1 (i := 13) rfl rfl, ⟨by decide, by decide, by decide +kernel⟩⟩, gm_t3 (i := 77) rfl rfl⟩
set_option maxRecDepth 100000 in
theorem mm_J9_max_7cf53 : gm_MS yJ9_max_7cf53 cJ9_max_7cf53 2 (some .int) 2 := ⟨⟨gm_t3 (i := 81) rfl rfl, gm_t1 (i := 13) rfl rfl, ⟨by decide, by decide, by decide +kernel⟩⟩, gm_t3 (i := 80) rfl rfl⟩
set_option maxRecDepth 100000 in
theorem mm_J9_min_7cf53 : gm_MS yJ9_min_7cf53 cJ9_min_7cf53 2 (some .int) 2 := ⟨⟨gm_t2 (i := 150) rfl rfl, gm_t1 (i := 13) rfl rfl, ⟨by decide, by decide, by decide +kernel⟩⟩, gm_t2 (i := 149) rfl rfl⟩
set_option maxRecDepth 100000 in
theorem mm_J0_checkIndex_df160 : gm_MS yJ0_checkIndex_df160 cJ0_checkIndex_df160 2 none 2 := ⟨⟨gm_t2 (i := 205) rfl rfl, gm_t1 (i := 14) rfl rfl, ⟨by decide, by decide, by decide +kernel⟩⟩, gm_t2 (i := 204) rfl rfl⟩
set_option maxRecDepth 100000 in
theorem mm_J1_charAt_3b067 : gm_MS yJ1_charAt_3b067 cJ1_charAt_3b067 2 (some .char) 2 := ⟨⟨gm_t2 (i := 202) rfl rfl, gm_t1 (i := 15) rfl rfl, ⟨by decide, by decide, by decide +kernel⟩⟩, gm_t2 (i := 201) rfl rfl⟩
set_option maxRecDepth 100000 in
theorem mm_J2_getChar_3b067 : gm_MS yJ2_getChar_3b067 cJ2_getChar_3b067 2 (some .char) 2 := ⟨⟨gm_t2 (i := 223) rfl rfl, gm_t1 (i := 17) rfl rfl, ⟨by decide, by decide, by decide +kernel⟩⟩, gm_t2 (i := 222) rfl rfl⟩
set_option maxRecDepth 100000 in
theorem mm_J2_length_9d52b : gm_MS yJ2_length_9d52b cJ2_length_9d52b 1 (some .int) 1 := ⟨⟨gm_t2 (i := 219) rfl rfl, gm_t1 (i := 17) rfl rfl, ⟨by decide, by decide, by decide +kernel⟩⟩, gm_t2 (i := 218) rfl rfl⟩
set_option maxRecDepth 100000 in
theorem mm_J2_charAt_3b067 : gm_MS yJ2_charAt_3b067 cJ2_charAt_3b067 2 (some .char) 2 := ⟨⟨gm_t2 (i := 213) rfl rfl, gm_t1 (i := 17) rfl rfl, ⟨by decide, by decide, by decide +kernel⟩⟩, gm_t2 (i := 212) rfl rfl⟩
set_option maxRecDepth 100000 in
theorem mm_J2_checkIndex_2214a : gm_MS yJ2_checkIndex_2214a cJ2_checkIndex_2214a 2 none 2 := ⟨⟨gm_t2 (i := 216) rfl rfl, gm_t1 (i := 17) rfl rfl, ⟨by decide, by decide, by decide +kernel⟩⟩, gm_t2 (i := 215) rfl rfl⟩
set_option maxRecDepth 100000 in
theorem mm_J3_checkIndex_8e157 : gm_MS yJ3_checkIndex_8e157 cJ3_checkIndex_8e157 3 (some .int) 3 := ⟨⟨gm_t2 (i := 210) rfl rfl, gm_t1 (i := 16) rfl rfl, ⟨by decide, by decide, by decide +kernel⟩⟩, gm_t2 (i := 209) rfl rfl⟩
set_option maxRecDepth 100000 in
theorem ml_X10_1 : Cond.methodLink RX10 1 objectInit ∈ gm_TB := gm_t1 (i := 24) rfl rfl
set_option maxRecDepth 100000 in
theorem ml_X10_62 : Cond.methodLink RX10 62 yX7_init ∈ gm_TB := gm_t1 (i := 211) rfl rfl
set_option maxRecDepth 100000 in
theorem ml_X10_77 : Cond.methodLink RX10 77 yX9_init ∈ gm_TB := gm_t2 (i := 37) rfl rfl
set_option maxRecDepth 100000 in
theorem ml_X10_90 : Cond.methodLink RX10 90 yX10_tapeInt ∈ gm_TB := gm_t2 (i := 136) rfl rfl
set_option maxRecDepth 100000 in
theorem ml_X10_94 : Cond.methodLink RX10 94 yX5_readText ∈ gm_TB := gm_t2 (i := 144) rfl rfl
set_option maxRecDepth 100000 in
theorem ml_X10_101 : Cond.methodLink RX10 101 yX1_takeFrom ∈ gm_TB := gm_t3 (i := 21) rfl rfl
set_option maxRecDepth 100000 in
theorem ml_X10_105 : Cond.methodLink RX10 105 yX8_cutTo ∈ gm_TB := gm_t3 (i := 28) rfl rfl
set_option maxRecDepth 100000 in
theorem ml_X10_114 : Cond.methodLink RX10 114 yX1_has ∈ gm_TB := gm_t3 (i := 40) rfl rfl
set_option maxRecDepth 100000 in
theorem ml_X10_128 : Cond.methodLink RX10 128 yX8_writtenBy ∈ gm_TB := gm_t3 (i := 44) rfl rfl
set_option maxRecDepth 100000 in
theorem ml_X10_132 : Cond.methodLink RX10 132 yX8_latestBy ∈ gm_TB := gm_t3 (i := 48) rfl rfl
set_option maxRecDepth 100000 in
theorem ml_X10_135 : Cond.methodLink RX10 135 yX10_isJar ∈ gm_TB := gm_t3 (i := 56) rfl rfl
set_option maxRecDepth 100000 in
theorem ml_X10_138 : Cond.methodLink RX10 138 yX1_sightOf ∈ gm_TB := gm_t3 (i := 59) rfl rfl
set_option maxRecDepth 100000 in
theorem ml_X10_142 : Cond.methodLink RX10 142 yX1_spans ∈ gm_TB := gm_t3 (i := 68) rfl rfl
set_option maxRecDepth 100000 in
theorem ml_X10_145 : Cond.methodLink RX10 145 yX1_weightOf ∈ gm_TB := gm_t3 (i := 72) rfl rfl
set_option maxRecDepth 100000 in
theorem ml_X10_151 : Cond.methodLink RX10 151 yX10_isNumber ∈ gm_TB := gm_t3 (i := 90) rfl rfl
set_option maxRecDepth 100000 in
theorem ml_X10_157 : Cond.methodLink RX10 157 yX8_add ∈ gm_TB := gm_t3 (i := 93) rfl rfl
set_option maxRecDepth 100000 in
theorem ml_X10_161 : Cond.methodLink RX10 161 yX8_has ∈ gm_TB := gm_t3 (i := 105) rfl rfl
set_option maxRecDepth 100000 in
theorem ml_X10_172 : Cond.methodLink RX10 172 yX8_goalAt ∈ gm_TB := gm_t3 (i := 109) rfl rfl
set_option maxRecDepth 100000 in
theorem ml_X10_176 : Cond.methodLink RX10 176 yX10_offJar ∈ gm_TB := gm_t3 (i := 117) rfl rfl
set_option maxRecDepth 100000 in
theorem ml_X10_179 : Cond.methodLink RX10 179 yX8_firstOf ∈ gm_TB := gm_t3 (i := 122) rfl rfl
set_option maxRecDepth 100000 in
theorem ml_X10_182 : Cond.methodLink RX10 182 Lib.Math.abs.name ∈ gm_TB := gm_t3 (i := 121) rfl rfl
set_option maxRecDepth 100000 in
theorem ml_X10_187 : Cond.methodLink RX10 187 yX10_isRow ∈ gm_TB := gm_t3 (i := 130) rfl rfl
set_option maxRecDepth 100000 in
theorem ml_X10_190 : Cond.methodLink RX10 190 yX6_isMissing ∈ gm_TB := gm_t3 (i := 133) rfl rfl
set_option maxRecDepth 100000 in
theorem ml_X10_194 : Cond.methodLink RX10 194 yX10_writable ∈ gm_TB := gm_t3 (i := 137) rfl rfl
set_option maxRecDepth 100000 in
theorem ml_X10_203 : Cond.methodLink RX10 203 yX10_tellFault ∈ gm_TB := gm_t3 (i := 141) rfl rfl
set_option maxRecDepth 100000 in
theorem ml_X10_207 : Cond.methodLink RX10 207 yX10_meanWith ∈ gm_TB := gm_t3 (i := 149) rfl rfl
set_option maxRecDepth 100000 in
theorem ml_X10_211 : Cond.methodLink RX10 211 yX10_toldGuesser ∈ gm_TB := gm_t3 (i := 158) rfl rfl
set_option maxRecDepth 100000 in
theorem ml_X10_215 : Cond.methodLink RX10 215 yX10_toldNumber ∈ gm_TB := gm_t3 (i := 146) rfl rfl
set_option maxRecDepth 100000 in
theorem ml_X10_223 : Cond.methodLink RX10 223 yX8_sumOf ∈ gm_TB := gm_t3 (i := 153) rfl rfl
set_option maxRecDepth 100000 in
theorem ml_X10_226 : Cond.methodLink RX10 226 yX10_canDraw ∈ gm_TB := gm_t3 (i := 165) rfl rfl
set_option maxRecDepth 100000 in
theorem ml_X10_229 : Cond.methodLink RX10 229 yX0_start ∈ gm_TB := gm_t3 (i := 169) rfl rfl
set_option maxRecDepth 100000 in
theorem ml_X10_232 : Cond.methodLink RX10 232 yX0_fill ∈ gm_TB := gm_t3 (i := 173) rfl rfl
set_option maxRecDepth 100000 in
theorem ml_X10_236 : Cond.methodLink RX10 236 yX8_nearestTo ∈ gm_TB := gm_t3 (i := 196) rfl rfl
set_option maxRecDepth 100000 in
theorem ml_X10_239 : Cond.methodLink RX10 239 yX7_reachOf ∈ gm_TB := gm_t3 (i := 209) rfl rfl
set_option maxRecDepth 100000 in
theorem ml_X10_243 : Cond.methodLink RX10 243 yX4_width ∈ gm_TB := gm_t3 (i := 232) rfl rfl
set_option maxRecDepth 100000 in
theorem ml_X10_249 : Cond.methodLink RX10 249 yX7_weigh ∈ gm_TB := gm_t3 (i := 236) rfl rfl
set_option maxRecDepth 100000 in
theorem ml_X10_258 : Cond.methodLink RX10 258 yX7_sum ∈ gm_TB := gm_t4 (i := 20) rfl rfl
set_option maxRecDepth 100000 in
theorem ml_X10_262 : Cond.methodLink RX10 262 yX8_meanOf ∈ gm_TB := gm_t4 (i := 28) rfl rfl
set_option maxRecDepth 100000 in
theorem ml_X10_265 : Cond.methodLink RX10 265 yX8_middle ∈ gm_TB := gm_t4 (i := 32) rfl rfl
set_option maxRecDepth 100000 in
theorem ml_X10_268 : Cond.methodLink RX10 268 Lib.Math.min.name ∈ gm_TB := gm_t4 (i := 36) rfl rfl
set_option maxRecDepth 100000 in
theorem ml_X10_271 : Cond.methodLink RX10 271 yX8_least ∈ gm_TB := gm_t4 (i := 37) rfl rfl
set_option maxRecDepth 100000 in
theorem ml_X10_274 : Cond.methodLink RX10 274 yX8_greatest ∈ gm_TB := gm_t4 (i := 42) rfl rfl
set_option maxRecDepth 100000 in
theorem ml_X10_277 : Cond.methodLink RX10 277 yX10_pointer ∈ gm_TB := gm_t4 (i := 51) rfl rfl
set_option maxRecDepth 100000 in
theorem ml_X10_280 : Cond.methodLink RX10 280 yX10_mean ∈ gm_TB := gm_t4 (i := 55) rfl rfl
set_option maxRecDepth 100000 in
theorem ml_X10_283 : Cond.methodLink RX10 283 yX10_canCount ∈ gm_TB := gm_t4 (i := 60) rfl rfl
set_option maxRecDepth 100000 in
theorem ml_X10_286 : Cond.methodLink RX10 286 yX7_waysFor ∈ gm_TB := gm_t4 (i := 64) rfl rfl
set_option maxRecDepth 100000 in
theorem ml_X10_292 : Cond.methodLink RX10 292 yX7_total ∈ gm_TB := gm_t4 (i := 70) rfl rfl
set_option maxRecDepth 100000 in
theorem ml_X10_306 : Cond.methodLink RX10 306 yX7_halfway ∈ gm_TB := gm_t4 (i := 88) rfl rfl
set_option maxRecDepth 100000 in
theorem ml_X10_309 : Cond.methodLink RX10 309 yX7_weightedSum ∈ gm_TB := gm_t4 (i := 94) rfl rfl
set_option maxRecDepth 100000 in
theorem ml_X10_312 : Cond.methodLink RX10 312 yX7_copiedWays ∈ gm_TB := gm_t4 (i := 102) rfl rfl
set_option maxRecDepth 100000 in
theorem ml_X10_315 : Cond.methodLink RX10 315 yX7_reachBehind ∈ gm_TB := gm_t4 (i := 114) rfl rfl
set_option maxRecDepth 100000 in
theorem ml_X10_319 : Cond.methodLink RX10 319 yX7_lay ∈ gm_TB := gm_t4 (i := 119) rfl rfl
set_option maxRecDepth 100000 in
theorem ml_X10_322 : Cond.methodLink RX10 322 yX9_play ∈ gm_TB := gm_t4 (i := 125) rfl rfl
set_option maxRecDepth 100000 in
theorem ml_X10_328 : Cond.methodLink RX10 328 yX9_shareOf ∈ gm_TB := gm_t4 (i := 153) rfl rfl
set_option maxRecDepth 100000 in
theorem ml_X10_333 : Cond.methodLink RX10 333 yX7_chooseTwo ∈ gm_TB := gm_t4 (i := 159) rfl rfl
set_option maxRecDepth 100000 in
theorem ml_X10_346 : Cond.methodLink RX10 346 yX10_gainOf ∈ gm_TB := gm_t4 (i := 188) rfl rfl
set_option maxRecDepth 100000 in
theorem ml_X10_356 : Cond.methodLink RX10 356 yX3_start ∈ gm_TB := gm_t4 (i := 204) rfl rfl
set_option maxRecDepth 100000 in
theorem ml_X10_357 : Cond.methodLink RX10 357 yX3_addOne ∈ gm_TB := gm_t4 (i := 210) rfl rfl
set_option maxRecDepth 100000 in
theorem ml_X10_360 : Cond.methodLink RX10 360 yX3_within ∈ gm_TB := gm_t4 (i := 214) rfl rfl
set_option maxRecDepth 100000 in
theorem ml_X10_368 : Cond.methodLink RX10 368 yX10_toldOfTrial ∈ gm_TB := gm_t4 (i := 227) rfl rfl
set_option maxRecDepth 100000 in
theorem ml_X10_371 : Cond.methodLink RX10 371 yX10_isGlass ∈ gm_TB := gm_t4 (i := 235) rfl rfl
set_option maxRecDepth 100000 in
theorem ml_X10_375 : Cond.methodLink RX10 375 yX10_filled ∈ gm_TB := gm_t4 (i := 238) rfl rfl
set_option maxRecDepth 100000 in
theorem ml_X10_379 : Cond.methodLink RX10 379 yX6_begin ∈ gm_TB := gm_t5 (i := 9) rfl rfl
set_option maxRecDepth 100000 in
theorem ml_X10_386 : Cond.methodLink RX10 386 yX6_set ∈ gm_TB := gm_t5 (i := 19) rfl rfl
set_option maxRecDepth 100000 in
theorem ml_X10_390 : Cond.methodLink RX10 390 yX10_isImage ∈ gm_TB := gm_t5 (i := 35) rfl rfl
set_option maxRecDepth 100000 in
theorem ml_X10_395 : Cond.methodLink RX10 395 yX8_takeFrom ∈ gm_TB := gm_t5 (i := 38) rfl rfl
set_option maxRecDepth 100000 in
theorem ml_X10_401 : Cond.methodLink RX10 401 yX8_unlike ∈ gm_TB := gm_t5 (i := 51) rfl rfl
set_option maxRecDepth 100000 in
theorem ml_X0_3 : Cond.methodLink RX0 3 objectInit ∈ gm_TB := gm_t1 (i := 176) rfl rfl
set_option maxRecDepth 100000 in
theorem ml_X0_21 : Cond.methodLink RX0 21 yX0_draw ∈ gm_TB := gm_t3 (i := 177) rfl rfl
set_option maxRecDepth 100000 in
theorem ml_X0_30 : Cond.methodLink RX0 30 yX8_goalAt ∈ gm_TB := gm_t3 (i := 182) rfl rfl
set_option maxRecDepth 100000 in
theorem ml_X0_34 : Cond.methodLink RX0 34 yX0_nextNumber ∈ gm_TB := gm_t3 (i := 183) rfl rfl
set_option maxRecDepth 100000 in
theorem ml_X0_38 : Cond.methodLink RX0 38 yX8_add ∈ gm_TB := gm_t3 (i := 191) rfl rfl
set_option maxRecDepth 100000 in
theorem ml_X0_42 : Cond.methodLink RX0 42 yX1_has ∈ gm_TB := gm_t3 (i := 187) rfl rfl
set_option maxRecDepth 100000 in
theorem ml_X0_56 : Cond.methodLink RX0 56 yX1_sightOf ∈ gm_TB := gm_t3 (i := 188) rfl rfl
set_option maxRecDepth 100000 in
theorem ml_X0_60 : Cond.methodLink RX0 60 Lib.Math.min.name ∈ gm_TB := gm_t3 (i := 189) rfl rfl
set_option maxRecDepth 100000 in
theorem ml_X0_65 : Cond.methodLink RX0 65 Lib.Math.max.name ∈ gm_TB := gm_t3 (i := 190) rfl rfl
set_option maxRecDepth 100000 in
theorem ml_X1_3 : Cond.methodLink RX1 3 objectInit ∈ gm_TB := gm_t1 (i := 32) rfl rfl
set_option maxRecDepth 100000 in
theorem ml_X1_56 : Cond.methodLink RX1 56 arraycopyName ∈ gm_TB := gm_t3 (i := 25) rfl rfl
set_option maxRecDepth 100000 in
theorem ml_X1_62 : Cond.methodLink RX1 62 Lib.Math.abs.name ∈ gm_TB := gm_t3 (i := 76) rfl rfl
set_option maxRecDepth 100000 in
theorem ml_X1_68 : Cond.methodLink RX1 68 Lib.Math.max.name ∈ gm_TB := gm_t3 (i := 79) rfl rfl
set_option maxRecDepth 100000 in
theorem ml_X1_72 : Cond.methodLink RX1 72 yX1_has ∈ gm_TB := gm_t3 (i := 63) rfl rfl
set_option maxRecDepth 100000 in
theorem ml_X2_1 : Cond.methodLink RX2 1 objectInit ∈ gm_TB := gm_t2 (i := 75) rfl rfl
set_option maxRecDepth 100000 in
theorem ml_X3_3 : Cond.methodLink RX3 3 objectInit ∈ gm_TB := gm_t1 (i := 186) rfl rfl
set_option maxRecDepth 100000 in
theorem ml_X3_18 : Cond.methodLink RX3 18 Lib.Math.min.name ∈ gm_TB := gm_t4 (i := 208) rfl rfl
set_option maxRecDepth 100000 in
theorem ml_X3_24 : Cond.methodLink RX3 24 Lib.Math.max.name ∈ gm_TB := gm_t4 (i := 209) rfl rfl
set_option maxRecDepth 100000 in
theorem ml_X4_1 : Cond.methodLink RX4 1 objectInit ∈ gm_TB := gm_t1 (i := 220) rfl rfl
set_option maxRecDepth 100000 in
theorem ml_X4_19 : Cond.methodLink RX4 19 Lib.Math.max.name ∈ gm_TB := gm_t3 (i := 226) rfl rfl
set_option maxRecDepth 100000 in
theorem ml_X4_25 : Cond.methodLink RX4 25 Lib.Math.min.name ∈ gm_TB := gm_t3 (i := 227) rfl rfl
set_option maxRecDepth 100000 in
theorem ml_X5_3 : Cond.methodLink RX5 3 objectInit ∈ gm_TB := gm_t1 (i := 117) rfl rfl
set_option maxRecDepth 100000 in
theorem ml_X5_19 : Cond.methodLink RX5 19 Lib.Math.min.name ∈ gm_TB := gm_t2 (i := 148) rfl rfl
set_option maxRecDepth 100000 in
theorem ml_X5_34 : Cond.methodLink RX5 34 yX1_clear ∈ gm_TB := gm_t2 (i := 151) rfl rfl
set_option maxRecDepth 100000 in
theorem ml_X5_39 : Cond.methodLink RX5 39 yX5_next ∈ gm_TB := gm_t2 (i := 155) rfl rfl
set_option maxRecDepth 100000 in
theorem ml_X5_45 : Cond.methodLink RX5 45 yX5_readLine ∈ gm_TB := gm_t2 (i := 169) rfl rfl
set_option maxRecDepth 100000 in
theorem ml_X5_49 : Cond.methodLink RX5 49 yX5_endLine ∈ gm_TB := gm_t3 (i := 17) rfl rfl
set_option maxRecDepth 100000 in
theorem ml_X5_58 : Cond.methodLink RX5 58 yX5_takeWord ∈ gm_TB := gm_t2 (i := 174) rfl rfl
set_option maxRecDepth 100000 in
theorem ml_X5_62 : Cond.methodLink RX5 62 yX5_readGrid ∈ gm_TB := gm_t2 (i := 230) rfl rfl
set_option maxRecDepth 100000 in
theorem ml_X5_67 : Cond.methodLink RX5 67 yX5_readPrior ∈ gm_TB := gm_t3 (i := 3) rfl rfl
set_option maxRecDepth 100000 in
theorem ml_X5_72 : Cond.methodLink RX5 72 yX5_isWord ∈ gm_TB := gm_t2 (i := 178) rfl rfl
set_option maxRecDepth 100000 in
theorem ml_X5_75 : Cond.methodLink RX5 75 yX5_readGuesser ∈ gm_TB := gm_t3 (i := 8) rfl rfl
set_option maxRecDepth 100000 in
theorem ml_X5_85 : Cond.methodLink RX5 85 yX5_takeNumber ∈ gm_TB := gm_t2 (i := 234) rfl rfl
set_option maxRecDepth 100000 in
theorem ml_X5_103 : Cond.methodLink RX5 103 yX5_refuse ∈ gm_TB := gm_t2 (i := 238) rfl rfl
set_option maxRecDepth 100000 in
theorem ml_X5_143 : Cond.methodLink RX5 143 yJ0_length_8abf5 ∈ gm_TB := gm_t2 (i := 182) rfl rfl
set_option maxRecDepth 100000 in
theorem ml_X5_148 : Cond.methodLink RX5 148 yX5_byteAt ∈ gm_TB := gm_t2 (i := 159) rfl rfl
set_option maxRecDepth 100000 in
theorem ml_X5_152 : Cond.methodLink RX5 152 yJ0_charAt_5068e ∈ gm_TB := gm_t2 (i := 192) rfl rfl
set_option maxRecDepth 100000 in
theorem ml_X5_156 : Cond.methodLink RX5 156 yX5_isLetter ∈ gm_TB := gm_t2 (i := 163) rfl rfl
set_option maxRecDepth 100000 in
theorem ml_X5_159 : Cond.methodLink RX5 159 yX5_isDigit ∈ gm_TB := gm_t2 (i := 166) rfl rfl
set_option maxRecDepth 100000 in
theorem ml_X6_3 : Cond.methodLink RX6 3 objectInit ∈ gm_TB := gm_t2 (i := 58) rfl rfl
set_option maxRecDepth 100000 in
theorem ml_X6_22 : Cond.methodLink RX6 22 yX6_cut ∈ gm_TB := gm_t5 (i := 23) rfl rfl
set_option maxRecDepth 100000 in
theorem ml_X7_3 : Cond.methodLink RX7 3 objectInit ∈ gm_TB := gm_t1 (i := 214) rfl rfl
set_option maxRecDepth 100000 in
theorem ml_X7_46 : Cond.methodLink RX7 46 yX1_weightOf ∈ gm_TB := gm_t4 (i := 6) rfl rfl
set_option maxRecDepth 100000 in
theorem ml_X7_50 : Cond.methodLink RX7 50 yX7_copyChance ∈ gm_TB := gm_t4 (i := 7) rfl rfl
set_option maxRecDepth 100000 in
theorem ml_X7_54 : Cond.methodLink RX7 54 yX7_sightChance ∈ gm_TB := gm_t4 (i := 13) rfl rfl
set_option maxRecDepth 100000 in
theorem ml_X7_58 : Cond.methodLink RX7 58 yX8_has ∈ gm_TB := gm_t3 (i := 213) rfl rfl
set_option maxRecDepth 100000 in
theorem ml_X7_67 : Cond.methodLink RX7 67 yX1_has ∈ gm_TB := gm_t4 (i := 11) rfl rfl
set_option maxRecDepth 100000 in
theorem ml_X7_75 : Cond.methodLink RX7 75 yX8_goalAt ∈ gm_TB := gm_t4 (i := 12) rfl rfl
set_option maxRecDepth 100000 in
theorem ml_X7_85 : Cond.methodLink RX7 85 yX1_sightOf ∈ gm_TB := gm_t4 (i := 17) rfl rfl
set_option maxRecDepth 100000 in
theorem ml_X7_89 : Cond.methodLink RX7 89 Lib.Math.abs.name ∈ gm_TB := gm_t4 (i := 18) rfl rfl
set_option maxRecDepth 100000 in
theorem ml_X7_99 : Cond.methodLink RX7 99 Lib.Math.min.name ∈ gm_TB := gm_t4 (i := 0) rfl rfl
set_option maxRecDepth 100000 in
theorem ml_X7_102 : Cond.methodLink RX7 102 Lib.Math.max.name ∈ gm_TB := gm_t4 (i := 1) rfl rfl
set_option maxRecDepth 100000 in
theorem ml_X7_108 : Cond.methodLink RX7 108 yX7_waysFor ∈ gm_TB := gm_t4 (i := 2) rfl rfl
set_option maxRecDepth 100000 in
theorem ml_X7_114 : Cond.methodLink RX7 114 yX7_total ∈ gm_TB := gm_t4 (i := 93) rfl rfl
set_option maxRecDepth 100000 in
theorem ml_X7_118 : Cond.methodLink RX7 118 yX4_open ∈ gm_TB := gm_t3 (i := 218) rfl rfl
set_option maxRecDepth 100000 in
theorem ml_X7_122 : Cond.methodLink RX7 122 yX4_yieldTo ∈ gm_TB := gm_t3 (i := 222) rfl rfl
set_option maxRecDepth 100000 in
theorem ml_X7_126 : Cond.methodLink RX7 126 yX7_reachBehind ∈ gm_TB := gm_t3 (i := 214) rfl rfl
set_option maxRecDepth 100000 in
theorem ml_X7_133 : Cond.methodLink RX7 133 yX4_keepFrom ∈ gm_TB := gm_t3 (i := 228) rfl rfl
set_option maxRecDepth 100000 in
theorem ml_X7_136 : Cond.methodLink RX7 136 yX7_weigh ∈ gm_TB := gm_t4 (i := 123) rfl rfl
set_option maxRecDepth 100000 in
theorem ml_X7_145 : Cond.methodLink RX7 145 yX7_sum ∈ gm_TB := gm_t4 (i := 124) rfl rfl
set_option maxRecDepth 100000 in
theorem ml_X7_154 : Cond.methodLink RX7 154 yX7_keepTwo ∈ gm_TB := gm_t4 (i := 164) rfl rfl
set_option maxRecDepth 100000 in
theorem ml_X8_3 : Cond.methodLink RX8 3 objectInit ∈ gm_TB := gm_t1 (i := 153) rfl rfl
set_option maxRecDepth 100000 in
theorem ml_X8_18 : Cond.methodLink RX8 18 arraycopyName ∈ gm_TB := gm_t5 (i := 42) rfl rfl
set_option maxRecDepth 100000 in
theorem ml_X8_28 : Cond.methodLink RX8 28 yX8_sumOf ∈ gm_TB := gm_t3 (i := 113) rfl rfl
set_option maxRecDepth 100000 in
theorem ml_X8_32 : Cond.methodLink RX8 32 Lib.Math.abs.name ∈ gm_TB := gm_t3 (i := 200) rfl rfl
set_option maxRecDepth 100000 in
theorem ml_X8_37 : Cond.methodLink RX8 37 Lib.Math.min.name ∈ gm_TB := gm_t4 (i := 41) rfl rfl
set_option maxRecDepth 100000 in
theorem ml_X8_41 : Cond.methodLink RX8 41 Lib.Math.max.name ∈ gm_TB := gm_t4 (i := 46) rfl rfl
set_option maxRecDepth 100000 in
theorem ml_X8_44 : Cond.methodLink RX8 44 yX8_firstOf ∈ gm_TB := gm_t5 (i := 55) rfl rfl
set_option maxRecDepth 100000 in
theorem ml_X9_3 : Cond.methodLink RX9 3 objectInit ∈ gm_TB := gm_t2 (i := 40) rfl rfl
set_option maxRecDepth 100000 in
theorem ml_X9_24 : Cond.methodLink RX9 24 yX9_choose ∈ gm_TB := gm_t4 (i := 129) rfl rfl
set_option maxRecDepth 100000 in
theorem ml_X9_36 : Cond.methodLink RX9 36 yX7_low ∈ gm_TB := gm_t4 (i := 133) rfl rfl
set_option maxRecDepth 100000 in
theorem ml_X9_40 : Cond.methodLink RX9 40 yX7_wholeOf ∈ gm_TB := gm_t4 (i := 137) rfl rfl
set_option maxRecDepth 100000 in
theorem ml_X9_44 : Cond.methodLink RX9 44 yX9_shareOf ∈ gm_TB := gm_t4 (i := 141) rfl rfl
set_option maxRecDepth 100000 in
theorem ml_X9_48 : Cond.methodLink RX9 48 arraycopyName ∈ gm_TB := gm_t4 (i := 152) rfl rfl
set_option maxRecDepth 100000 in
theorem ml_X9_54 : Cond.methodLink RX9 54 yX7_laidReach ∈ gm_TB := gm_t4 (i := 145) rfl rfl
set_option maxRecDepth 100000 in
theorem ml_X9_58 : Cond.methodLink RX9 58 yX4_yieldTo ∈ gm_TB := gm_t4 (i := 149) rfl rfl
set_option maxRecDepth 100000 in
theorem ml_X9_64 : Cond.methodLink RX9 64 yX4_keepFrom ∈ gm_TB := gm_t4 (i := 150) rfl rfl
set_option maxRecDepth 100000 in
theorem ml_X9_73 : Cond.methodLink RX9 73 yX7_sum ∈ gm_TB := gm_t4 (i := 151) rfl rfl
set_option maxRecDepth 100000 in
theorem ml_L_9 : Cond.methodLink RL 9 yX10_init ∈ gm_TB := gm_t1 (i := 21) rfl rfl
set_option maxRecDepth 100000 in
theorem ml_L_12 : Cond.methodLink RL 12 yX11_init ∈ gm_TB := gm_t5 (i := 58) rfl rfl
set_option maxRecDepth 100000 in
theorem ml_L_13 : Cond.methodLink RL 13 yX10_feed ∈ gm_TB := gm_t2 (i := 132) rfl rfl
set_option maxRecDepth 100000 in
theorem ml_L_17 : Cond.methodLink RL 17 yX11_feed ∈ gm_TB := gm_t5 (i := 163) rfl rfl
set_option maxRecDepth 100000 in
theorem ml_L_18 : Cond.methodLink RL 18 yX10_fete ∈ gm_TB := gm_t2 (i := 140) rfl rfl
set_option maxRecDepth 100000 in
theorem ml_L_22 : Cond.methodLink RL 22 yX11_fete ∈ gm_TB := gm_t5 (i := 167) rfl rfl
set_option maxRecDepth 100000 in
theorem ml_L_23 : Cond.methodLink RL 23 yX10_fault ∈ gm_TB := gm_t3 (i := 32) rfl rfl
set_option maxRecDepth 100000 in
theorem ml_L_26 : Cond.methodLink RL 26 yX11_fault ∈ gm_TB := gm_t5 (i := 219) rfl rfl
set_option maxRecDepth 100000 in
theorem ml_L_27 : Cond.methodLink RL 27 yX10_guesser ∈ gm_TB := gm_t3 (i := 36) rfl rfl
set_option maxRecDepth 100000 in
theorem ml_L_31 : Cond.methodLink RL 31 yX11_guesser ∈ gm_TB := gm_t5 (i := 223) rfl rfl
set_option maxRecDepth 100000 in
theorem ml_L_32 : Cond.methodLink RL 32 yX10_sight ∈ gm_TB := gm_t3 (i := 52) rfl rfl
set_option maxRecDepth 100000 in
theorem ml_L_35 : Cond.methodLink RL 35 yX11_sight ∈ gm_TB := gm_t6 (i := 0) rfl rfl
set_option maxRecDepth 100000 in
theorem ml_L_36 : Cond.methodLink RL 36 yX10_weight ∈ gm_TB := gm_t3 (i := 64) rfl rfl
set_option maxRecDepth 100000 in
theorem ml_L_39 : Cond.methodLink RL 39 yX11_weight ∈ gm_TB := gm_t6 (i := 9) rfl rfl
set_option maxRecDepth 100000 in
theorem ml_L_40 : Cond.methodLink RL 40 yX10_jar ∈ gm_TB := gm_t3 (i := 82) rfl rfl
set_option maxRecDepth 100000 in
theorem ml_L_43 : Cond.methodLink RL 43 yX11_jar ∈ gm_TB := gm_t6 (i := 24) rfl rfl
set_option maxRecDepth 100000 in
theorem ml_L_44 : Cond.methodLink RL 44 yX10_write ∈ gm_TB := gm_t3 (i := 86) rfl rfl
set_option maxRecDepth 100000 in
theorem ml_L_47 : Cond.methodLink RL 47 yX11_write ∈ gm_TB := gm_t6 (i := 28) rfl rfl
set_option maxRecDepth 100000 in
theorem ml_L_48 : Cond.methodLink RL 48 yX10_strike ∈ gm_TB := gm_t3 (i := 97) rfl rfl
set_option maxRecDepth 100000 in
theorem ml_L_51 : Cond.methodLink RL 51 yX11_strike ∈ gm_TB := gm_t6 (i := 37) rfl rfl
set_option maxRecDepth 100000 in
theorem ml_L_52 : Cond.methodLink RL 52 yX10_list ∈ gm_TB := gm_t3 (i := 101) rfl rfl
set_option maxRecDepth 100000 in
theorem ml_L_55 : Cond.methodLink RL 55 yX11_list ∈ gm_TB := gm_t6 (i := 41) rfl rfl
set_option maxRecDepth 100000 in
theorem ml_L_56 : Cond.methodLink RL 56 yX10_judge ∈ gm_TB := gm_t3 (i := 126) rfl rfl
set_option maxRecDepth 100000 in
theorem ml_L_59 : Cond.methodLink RL 59 yX11_judge ∈ gm_TB := gm_t6 (i := 61) rfl rfl
set_option maxRecDepth 100000 in
theorem ml_L_60 : Cond.methodLink RL 60 yX10_perform ∈ gm_TB := gm_t3 (i := 154) rfl rfl
set_option maxRecDepth 100000 in
theorem ml_L_63 : Cond.methodLink RL 63 yX11_perform ∈ gm_TB := gm_t6 (i := 80) rfl rfl
set_option maxRecDepth 100000 in
theorem ml_L_64 : Cond.methodLink RL 64 yX10_come ∈ gm_TB := gm_t3 (i := 161) rfl rfl
set_option maxRecDepth 100000 in
theorem ml_L_67 : Cond.methodLink RL 67 yX11_come ∈ gm_TB := gm_t6 (i := 84) rfl rfl
set_option maxRecDepth 100000 in
theorem ml_L_68 : Cond.methodLink RL 68 yX10_leader ∈ gm_TB := gm_t3 (i := 192) rfl rfl
set_option maxRecDepth 100000 in
theorem ml_L_71 : Cond.methodLink RL 71 yX11_leader ∈ gm_TB := gm_t6 (i := 98) rfl rfl
set_option maxRecDepth 100000 in
theorem ml_L_72 : Cond.methodLink RL 72 yX10_winner ∈ gm_TB := gm_t3 (i := 201) rfl rfl
set_option maxRecDepth 100000 in
theorem ml_L_76 : Cond.methodLink RL 76 yX11_winner ∈ gm_TB := gm_t6 (i := 106) rfl rfl
set_option maxRecDepth 100000 in
theorem ml_L_77 : Cond.methodLink RL 77 yX10_wins ∈ gm_TB := gm_t3 (i := 205) rfl rfl
set_option maxRecDepth 100000 in
theorem ml_L_80 : Cond.methodLink RL 80 yX11_wins ∈ gm_TB := gm_t6 (i := 110) rfl rfl
set_option maxRecDepth 100000 in
theorem ml_L_81 : Cond.methodLink RL 81 yX10_mean ∈ gm_TB := gm_t4 (i := 24) rfl rfl
set_option maxRecDepth 100000 in
theorem ml_L_84 : Cond.methodLink RL 84 yX11_mean ∈ gm_TB := gm_t6 (i := 114) rfl rfl
set_option maxRecDepth 100000 in
theorem ml_L_85 : Cond.methodLink RL 85 yX10_nearest ∈ gm_TB := gm_t4 (i := 47) rfl rfl
set_option maxRecDepth 100000 in
theorem ml_L_88 : Cond.methodLink RL 88 yX11_nearest ∈ gm_TB := gm_t6 (i := 126) rfl rfl
set_option maxRecDepth 100000 in
theorem ml_L_89 : Cond.methodLink RL 89 yX10_odds ∈ gm_TB := gm_t4 (i := 56) rfl rfl
set_option maxRecDepth 100000 in
theorem ml_L_93 : Cond.methodLink RL 93 yX11_odds ∈ gm_TB := gm_t6 (i := 130) rfl rfl
set_option maxRecDepth 100000 in
theorem ml_L_94 : Cond.methodLink RL 94 yX10_out ∈ gm_TB := gm_t4 (i := 66) rfl rfl
set_option maxRecDepth 100000 in
theorem ml_L_98 : Cond.methodLink RL 98 yX11_out ∈ gm_TB := gm_t6 (i := 159) rfl rfl
set_option maxRecDepth 100000 in
theorem ml_L_99 : Cond.methodLink RL 99 yX10_likeliest ∈ gm_TB := gm_t4 (i := 74) rfl rfl
set_option maxRecDepth 100000 in
theorem ml_L_102 : Cond.methodLink RL 102 yX11_likeliest ∈ gm_TB := gm_t6 (i := 163) rfl rfl
set_option maxRecDepth 100000 in
theorem ml_L_103 : Cond.methodLink RL 103 yX10_span ∈ gm_TB := gm_t4 (i := 78) rfl rfl
set_option maxRecDepth 100000 in
theorem ml_L_106 : Cond.methodLink RL 106 yX11_span ∈ gm_TB := gm_t6 (i := 167) rfl rfl
set_option maxRecDepth 100000 in
theorem ml_L_107 : Cond.methodLink RL 107 yX10_expect ∈ gm_TB := gm_t4 (i := 82) rfl rfl
set_option maxRecDepth 100000 in
theorem ml_L_110 : Cond.methodLink RL 110 yX11_expect ∈ gm_TB := gm_t6 (i := 171) rfl rfl
set_option maxRecDepth 100000 in
theorem ml_L_111 : Cond.methodLink RL 111 yX10_copied ∈ gm_TB := gm_t4 (i := 98) rfl rfl
set_option maxRecDepth 100000 in
theorem ml_L_114 : Cond.methodLink RL 114 yX11_copied ∈ gm_TB := gm_t6 (i := 177) rfl rfl
set_option maxRecDepth 100000 in
theorem ml_L_115 : Cond.methodLink RL 115 yX10_copier ∈ gm_TB := gm_t4 (i := 106) rfl rfl
set_option maxRecDepth 100000 in
theorem ml_L_118 : Cond.methodLink RL 118 yX11_copier ∈ gm_TB := gm_t6 (i := 185) rfl rfl
set_option maxRecDepth 100000 in
theorem ml_L_119 : Cond.methodLink RL 119 yX10_chance ∈ gm_TB := gm_t4 (i := 110) rfl rfl
set_option maxRecDepth 100000 in
theorem ml_L_122 : Cond.methodLink RL 122 yX11_chance ∈ gm_TB := gm_t6 (i := 189) rfl rfl
set_option maxRecDepth 100000 in
theorem ml_L_123 : Cond.methodLink RL 123 yX10_best ∈ gm_TB := gm_t4 (i := 115) rfl rfl
set_option maxRecDepth 100000 in
theorem ml_L_126 : Cond.methodLink RL 126 yX11_best ∈ gm_TB := gm_t6 (i := 205) rfl rfl
set_option maxRecDepth 100000 in
theorem ml_L_127 : Cond.methodLink RL 127 yX10_bestTwo ∈ gm_TB := gm_t4 (i := 154) rfl rfl
set_option maxRecDepth 100000 in
theorem ml_L_130 : Cond.methodLink RL 130 yX11_bestTwo ∈ gm_TB := gm_t6 (i := 213) rfl rfl
set_option maxRecDepth 100000 in
theorem ml_L_131 : Cond.methodLink RL 131 yX10_behind ∈ gm_TB := gm_t4 (i := 168) rfl rfl
set_option maxRecDepth 100000 in
theorem ml_L_134 : Cond.methodLink RL 134 yX11_behind ∈ gm_TB := gm_t6 (i := 226) rfl rfl
set_option maxRecDepth 100000 in
theorem ml_L_135 : Cond.methodLink RL 135 yX10_waits ∈ gm_TB := gm_t4 (i := 172) rfl rfl
set_option maxRecDepth 100000 in
theorem ml_L_138 : Cond.methodLink RL 138 yX11_waits ∈ gm_TB := gm_t6 (i := 234) rfl rfl
set_option maxRecDepth 100000 in
theorem ml_L_139 : Cond.methodLink RL 139 yX10_waysOf ∈ gm_TB := gm_t4 (i := 176) rfl rfl
set_option maxRecDepth 100000 in
theorem ml_L_142 : Cond.methodLink RL 142 yX11_waysOf ∈ gm_TB := gm_t6 (i := 238) rfl rfl
set_option maxRecDepth 100000 in
theorem ml_L_143 : Cond.methodLink RL 143 yX10_shutIn ∈ gm_TB := gm_t4 (i := 180) rfl rfl
set_option maxRecDepth 100000 in
theorem ml_L_146 : Cond.methodLink RL 146 yX11_shutIn ∈ gm_TB := gm_t7 (i := 2) rfl rfl
set_option maxRecDepth 100000 in
theorem ml_L_147 : Cond.methodLink RL 147 yX10_gain ∈ gm_TB := gm_t4 (i := 184) rfl rfl
set_option maxRecDepth 100000 in
theorem ml_L_150 : Cond.methodLink RL 150 yX11_gain ∈ gm_TB := gm_t7 (i := 6) rfl rfl
set_option maxRecDepth 100000 in
theorem ml_L_151 : Cond.methodLink RL 151 yX10_buys ∈ gm_TB := gm_t4 (i := 192) rfl rfl
set_option maxRecDepth 100000 in
theorem ml_L_154 : Cond.methodLink RL 154 yX11_buys ∈ gm_TB := gm_t7 (i := 14) rfl rfl
set_option maxRecDepth 100000 in
theorem ml_L_155 : Cond.methodLink RL 155 yX10_game ∈ gm_TB := gm_t4 (i := 196) rfl rfl
set_option maxRecDepth 100000 in
theorem ml_L_158 : Cond.methodLink RL 158 yX11_game ∈ gm_TB := gm_t7 (i := 18) rfl rfl
set_option maxRecDepth 100000 in
theorem ml_L_159 : Cond.methodLink RL 159 yX10_alone ∈ gm_TB := gm_t4 (i := 200) rfl rfl
set_option maxRecDepth 100000 in
theorem ml_L_163 : Cond.methodLink RL 163 yX11_alone ∈ gm_TB := gm_t7 (i := 31) rfl rfl
set_option maxRecDepth 100000 in
theorem ml_L_164 : Cond.methodLink RL 164 yX10_fewest ∈ gm_TB := gm_t4 (i := 218) rfl rfl
set_option maxRecDepth 100000 in
theorem ml_L_168 : Cond.methodLink RL 168 yX11_fewest ∈ gm_TB := gm_t7 (i := 41) rfl rfl
set_option maxRecDepth 100000 in
theorem ml_L_169 : Cond.methodLink RL 169 yX10_fetes ∈ gm_TB := gm_t4 (i := 223) rfl rfl
set_option maxRecDepth 100000 in
theorem ml_L_173 : Cond.methodLink RL 173 yX11_fetes ∈ gm_TB := gm_t7 (i := 46) rfl rfl
set_option maxRecDepth 100000 in
theorem ml_L_174 : Cond.methodLink RL 174 yX10_holds ∈ gm_TB := gm_t4 (i := 231) rfl rfl
set_option maxRecDepth 100000 in
theorem ml_L_177 : Cond.methodLink RL 177 yX11_holds ∈ gm_TB := gm_t7 (i := 51) rfl rfl
set_option maxRecDepth 100000 in
theorem ml_L_178 : Cond.methodLink RL 178 yX10_layersFor ∈ gm_TB := gm_t5 (i := 1) rfl rfl
set_option maxRecDepth 100000 in
theorem ml_L_181 : Cond.methodLink RL 181 yX11_layersFor ∈ gm_TB := gm_t7 (i := 59) rfl rfl
set_option maxRecDepth 100000 in
theorem ml_L_182 : Cond.methodLink RL 182 yX10_numbers ∈ gm_TB := gm_t5 (i := 5) rfl rfl
set_option maxRecDepth 100000 in
theorem ml_L_185 : Cond.methodLink RL 185 yX11_numbers ∈ gm_TB := gm_t7 (i := 64) rfl rfl
set_option maxRecDepth 100000 in
theorem ml_L_188 : Cond.methodLink RL 188 yX10_put ∈ gm_TB := gm_t5 (i := 13) rfl rfl
set_option maxRecDepth 100000 in
theorem ml_L_192 : Cond.methodLink RL 192 yX11_put ∈ gm_TB := gm_t7 (i := 68) rfl rfl
set_option maxRecDepth 100000 in
theorem ml_L_193 : Cond.methodLink RL 193 yX10_copy ∈ gm_TB := gm_t5 (i := 27) rfl rfl
set_option maxRecDepth 100000 in
theorem ml_L_196 : Cond.methodLink RL 196 yX11_copy ∈ gm_TB := gm_t7 (i := 77) rfl rfl
set_option maxRecDepth 100000 in
theorem ml_L_197 : Cond.methodLink RL 197 yX10_image ∈ gm_TB := gm_t5 (i := 31) rfl rfl
set_option maxRecDepth 100000 in
theorem ml_L_200 : Cond.methodLink RL 200 yX11_image ∈ gm_TB := gm_t7 (i := 81) rfl rfl
set_option maxRecDepth 100000 in
theorem ml_L_201 : Cond.methodLink RL 201 yX10_restore ∈ gm_TB := gm_t5 (i := 43) rfl rfl
set_option maxRecDepth 100000 in
theorem ml_L_204 : Cond.methodLink RL 204 yX11_restore ∈ gm_TB := gm_t7 (i := 85) rfl rfl
set_option maxRecDepth 100000 in
theorem ml_L_205 : Cond.methodLink RL 205 yX10_count ∈ gm_TB := gm_t5 (i := 47) rfl rfl
set_option maxRecDepth 100000 in
theorem ml_L_208 : Cond.methodLink RL 208 yX11_count ∈ gm_TB := gm_t7 (i := 89) rfl rfl
set_option maxRecDepth 100000 in
theorem ml_X11_7 : Cond.methodLink RX11 7 objectInit ∈ gm_TB := gm_t5 (i := 61) rfl rfl
set_option maxRecDepth 100000 in
theorem ml_X11_61 : Cond.methodLink RX11 61 yX11_plain ∈ gm_TB := gm_t5 (i := 62) rfl rfl
set_option maxRecDepth 100000 in
theorem ml_X11_73 : Cond.methodLink RX11 73 yJ0_length_8abf5 ∈ gm_TB := gm_t5 (i := 190) rfl rfl
set_option maxRecDepth 100000 in
theorem ml_X11_79 : Cond.methodLink RX11 79 yJ0_charAt_5068e ∈ gm_TB := gm_t5 (i := 191) rfl rfl
set_option maxRecDepth 100000 in
theorem ml_X11_89 : Cond.methodLink RX11 89 yX11_see ∈ gm_TB := gm_t5 (i := 178) rfl rfl
set_option maxRecDepth 100000 in
theorem ml_X11_96 : Cond.methodLink RX11 96 yX11_isSmall ∈ gm_TB := gm_t5 (i := 182) rfl rfl
set_option maxRecDepth 100000 in
theorem ml_X11_100 : Cond.methodLink RX11 100 yX11_keyAt ∈ gm_TB := gm_t5 (i := 185) rfl rfl
set_option maxRecDepth 100000 in
theorem ml_X11_103 : Cond.methodLink RX11 103 yX11_isDigit ∈ gm_TB := gm_t5 (i := 192) rfl rfl
set_option maxRecDepth 100000 in
theorem ml_X11_115 : Cond.methodLink RX11 115 yX11_is ∈ gm_TB := gm_t5 (i := 203) rfl rfl
set_option maxRecDepth 100000 in
theorem ml_X11_118 : Cond.methodLink RX11 118 yX11_next ∈ gm_TB := gm_t5 (i := 174) rfl rfl
set_option maxRecDepth 100000 in
theorem ml_X11_121 : Cond.methodLink RX11 121 yX11_fails ∈ gm_TB := gm_t5 (i := 211) rfl rfl
set_option maxRecDepth 100000 in
theorem ml_X11_125 : Cond.methodLink RX11 125 yX11_within ∈ gm_TB := gm_t5 (i := 171) rfl rfl
set_option maxRecDepth 100000 in
theorem ml_X11_129 : Cond.methodLink RX11 129 yX11_takes ∈ gm_TB := gm_t5 (i := 207) rfl rfl
set_option maxRecDepth 100000 in
theorem ml_X11_133 : Cond.methodLink RX11 133 yX11_eats ∈ gm_TB := gm_t5 (i := 199) rfl rfl
set_option maxRecDepth 100000 in
theorem ml_X11_136 : Cond.methodLink RX11 136 yX11_readGuesser ∈ gm_TB := gm_t5 (i := 215) rfl rfl
set_option maxRecDepth 100000 in
theorem ml_X11_139 : Cond.methodLink RX11 139 yX11_readLine ∈ gm_TB := gm_t5 (i := 195) rfl rfl
set_option maxRecDepth 100000 in
theorem ml_X11_145 : Cond.methodLink RX11 145 yX11_isGuesser ∈ gm_TB := gm_t5 (i := 227) rfl rfl
set_option maxRecDepth 100000 in
theorem ml_X11_151 : Cond.methodLink RX11 151 yX11_guessesOf ∈ gm_TB := gm_t5 (i := 232) rfl rfl
set_option maxRecDepth 100000 in
theorem ml_X11_154 : Cond.methodLink RX11 154 yX11_latestOf ∈ gm_TB := gm_t5 (i := 236) rfl rfl
set_option maxRecDepth 100000 in
theorem ml_X11_159 : Cond.methodLink RX11 159 yX11_sightOf ∈ gm_TB := gm_t6 (i := 5) rfl rfl
set_option maxRecDepth 100000 in
theorem ml_X11_162 : Cond.methodLink RX11 162 yX11_off ∈ gm_TB := gm_t6 (i := 21) rfl rfl
set_option maxRecDepth 100000 in
theorem ml_X11_165 : Cond.methodLink RX11 165 yX11_isGrid ∈ gm_TB := gm_t6 (i := 13) rfl rfl
set_option maxRecDepth 100000 in
theorem ml_X11_168 : Cond.methodLink RX11 168 yX11_weightOf ∈ gm_TB := gm_t6 (i := 17) rfl rfl
set_option maxRecDepth 100000 in
theorem ml_X11_171 : Cond.methodLink RX11 171 yX11_numberOf ∈ gm_TB := gm_t6 (i := 49) rfl rfl
set_option maxRecDepth 100000 in
theorem ml_X11_174 : Cond.methodLink RX11 174 yX11_meanOf ∈ gm_TB := gm_t6 (i := 57) rfl rfl
set_option maxRecDepth 100000 in
theorem ml_X11_179 : Cond.methodLink RX11 179 yX11_adds ∈ gm_TB := gm_t6 (i := 33) rfl rfl
set_option maxRecDepth 100000 in
theorem ml_X11_183 : Cond.methodLink RX11 183 yX11_isGuess ∈ gm_TB := gm_t6 (i := 45) rfl rfl
set_option maxRecDepth 100000 in
theorem ml_X11_186 : Cond.methodLink RX11 186 yX11_goalAt ∈ gm_TB := gm_t6 (i := 53) rfl rfl
set_option maxRecDepth 100000 in
theorem ml_X11_198 : Cond.methodLink RX11 198 yX11_keeps ∈ gm_TB := gm_t6 (i := 67) rfl rfl
set_option maxRecDepth 100000 in
theorem ml_X11_201 : Cond.methodLink RX11 201 yX11_writesAll ∈ gm_TB := gm_t6 (i := 71) rfl rfl
set_option maxRecDepth 100000 in
theorem ml_X11_204 : Cond.methodLink RX11 204 yX11_isAgain ∈ gm_TB := gm_t6 (i := 76) rfl rfl
set_option maxRecDepth 100000 in
theorem ml_X11_211 : Cond.methodLink RX11 211 yX11_draw ∈ gm_TB := gm_t6 (i := 93) rfl rfl
set_option maxRecDepth 100000 in
theorem ml_X11_216 : Cond.methodLink RX11 216 yX11_comes ∈ gm_TB := gm_t6 (i := 89) rfl rfl
set_option maxRecDepth 100000 in
theorem ml_X11_219 : Cond.methodLink RX11 219 yX11_leaderFor ∈ gm_TB := gm_t6 (i := 102) rfl rfl
set_option maxRecDepth 100000 in
theorem ml_X11_222 : Cond.methodLink RX11 222 yX11_ranked ∈ gm_TB := gm_t6 (i := 118) rfl rfl
set_option maxRecDepth 100000 in
theorem ml_X11_225 : Cond.methodLink RX11 225 yX11_nine ∈ gm_TB := gm_t6 (i := 122) rfl rfl
set_option maxRecDepth 100000 in
theorem ml_X11_228 : Cond.methodLink RX11 228 yX11_byGoal ∈ gm_TB := gm_t6 (i := 147) rfl rfl
set_option maxRecDepth 100000 in
theorem ml_X11_232 : Cond.methodLink RX11 232 yX11_isOwn ∈ gm_TB := gm_t6 (i := 155) rfl rfl
set_option maxRecDepth 100000 in
theorem ml_X11_240 : Cond.methodLink RX11 240 yX11_gridMany ∈ gm_TB := gm_t6 (i := 143) rfl rfl
set_option maxRecDepth 100000 in
theorem ml_X11_243 : Cond.methodLink RX11 243 yX11_chanceOf ∈ gm_TB := gm_t6 (i := 151) rfl rfl
set_option maxRecDepth 100000 in
theorem ml_X11_247 : Cond.methodLink RX11 247 yX11_isMany ∈ gm_TB := gm_t6 (i := 134) rfl rfl
set_option maxRecDepth 100000 in
theorem ml_X11_252 : Cond.methodLink RX11 252 yX11_laysWays ∈ gm_TB := gm_t6 (i := 139) rfl rfl
set_option maxRecDepth 100000 in
theorem ml_X11_259 : Cond.methodLink RX11 259 yX11_copiedOf ∈ gm_TB := gm_t6 (i := 181) rfl rfl
set_option maxRecDepth 100000 in
theorem ml_X11_262 : Cond.methodLink RX11 262 yX11_waysBy ∈ gm_TB := gm_t6 (i := 201) rfl rfl
set_option maxRecDepth 100000 in
theorem ml_X11_266 : Cond.methodLink RX11 266 yX11_laysNear ∈ gm_TB := gm_t6 (i := 197) rfl rfl
set_option maxRecDepth 100000 in
theorem ml_X11_269 : Cond.methodLink RX11 269 yX11_laysAll ∈ gm_TB := gm_t6 (i := 193) rfl rfl
set_option maxRecDepth 100000 in
theorem ml_X11_272 : Cond.methodLink RX11 272 yX11_bestBy ∈ gm_TB := gm_t6 (i := 209) rfl rfl
set_option maxRecDepth 100000 in
theorem ml_X11_275 : Cond.methodLink RX11 275 yX11_waysByTwo ∈ gm_TB := gm_t6 (i := 222) rfl rfl
set_option maxRecDepth 100000 in
theorem ml_X11_286 : Cond.methodLink RX11 286 yX11_laysTwo ∈ gm_TB := gm_t6 (i := 218) rfl rfl
set_option maxRecDepth 100000 in
theorem ml_X11_296 : Cond.methodLink RX11 296 yX11_laysBehind ∈ gm_TB := gm_t6 (i := 230) rfl rfl
set_option maxRecDepth 100000 in
theorem ml_X11_299 : Cond.methodLink RX11 299 yX11_gainOf ∈ gm_TB := gm_t7 (i := 10) rfl rfl
set_option maxRecDepth 100000 in
theorem ml_X11_302 : Cond.methodLink RX11 302 yX11_writesOn ∈ gm_TB := gm_t7 (i := 23) rfl rfl
set_option maxRecDepth 100000 in
theorem ml_X11_305 : Cond.methodLink RX11 305 yX11_weightFor ∈ gm_TB := gm_t7 (i := 27) rfl rfl
set_option maxRecDepth 100000 in
theorem ml_X11_314 : Cond.methodLink RX11 314 yX11_aloneOf ∈ gm_TB := gm_t7 (i := 37) rfl rfl
set_option maxRecDepth 100000 in
theorem ml_X11_323 : Cond.methodLink RX11 323 yX11_holdsOf ∈ gm_TB := gm_t7 (i := 56) rfl rfl
set_option maxRecDepth 100000 in
theorem ml_X11_333 : Cond.methodLink RX11 333 yX11_cut ∈ gm_TB := gm_t7 (i := 74) rfl rfl
set_option maxRecDepth 100000 in
theorem ml_X11_337 : Cond.methodLink RX11 337 yX11_unlikeMany ∈ gm_TB := gm_t7 (i := 93) rfl rfl
set_option maxRecDepth 100000 in
theorem ml_J0_335 : Cond.methodLink RJ0 335 yJ0_coder_7d493 ∈ gm_TB := gm_t2 (i := 186) rfl rfl
set_option maxRecDepth 100000 in
theorem ml_J0_492 : Cond.methodLink RJ0 492 yJ0_isLatin1_aae02 ∈ gm_TB := gm_t2 (i := 196) rfl rfl
set_option maxRecDepth 100000 in
theorem ml_J0_495 : Cond.methodLink RJ0 495 yJ1_charAt_3b067 ∈ gm_TB := gm_t2 (i := 200) rfl rfl
set_option maxRecDepth 100000 in
theorem ml_J0_498 : Cond.methodLink RJ0 498 yJ2_charAt_3b067 ∈ gm_TB := gm_t2 (i := 211) rfl rfl
set_option maxRecDepth 100000 in
theorem ml_J0_1059 : Cond.methodLink RJ0 1059 yJ3_checkIndex_8e157 ∈ gm_TB := gm_t2 (i := 208) rfl rfl
set_option maxRecDepth 100000 in
theorem ml_J1_9 : Cond.methodLink RJ1 9 yJ0_checkIndex_df160 ∈ gm_TB := gm_t2 (i := 203) rfl rfl
set_option maxRecDepth 100000 in
theorem ml_J2_48 : Cond.methodLink RJ2 48 yJ2_length_9d52b ∈ gm_TB := gm_t2 (i := 217) rfl rfl
set_option maxRecDepth 100000 in
theorem ml_J2_67 : Cond.methodLink RJ2 67 yJ2_checkIndex_2214a ∈ gm_TB := gm_t2 (i := 214) rfl rfl
set_option maxRecDepth 100000 in
theorem ml_J2_71 : Cond.methodLink RJ2 71 yJ2_getChar_3b067 ∈ gm_TB := gm_t2 (i := 221) rfl rfl
set_option maxRecDepth 100000 in
theorem ml_J2_414 : Cond.methodLink RJ2 414 yJ0_checkIndex_df160 ∈ gm_TB := gm_t2 (i := 220) rfl rfl
set_option maxRecDepth 100000 in
theorem nl_X10_15 : Cond.methodLinkNest RX10 15 yX1_init "JarGuess" ∈ gm_NW := gm_n1 (i := 29) rfl rfl
set_option maxRecDepth 100000 in
theorem nl_X10_22 : Cond.methodLinkNest RX10 22 yX5_init "JarGuess" ∈ gm_NW := gm_n1 (i := 114) rfl rfl
set_option maxRecDepth 100000 in
theorem nl_X10_29 : Cond.methodLinkNest RX10 29 yX8_init "JarGuess" ∈ gm_NW := gm_n1 (i := 150) rfl rfl
set_option maxRecDepth 100000 in
theorem nl_X10_36 : Cond.methodLinkNest RX10 36 yX0_init "JarGuess" ∈ gm_NW := gm_n1 (i := 173) rfl rfl
set_option maxRecDepth 100000 in
theorem nl_X10_43 : Cond.methodLinkNest RX10 43 yX3_init "JarGuess" ∈ gm_NW := gm_n1 (i := 183) rfl rfl
set_option maxRecDepth 100000 in
theorem nl_X10_84 : Cond.methodLinkNest RX10 84 yX6_init "JarGuess" ∈ gm_NW := gm_n2 (i := 55) rfl rfl
set_option maxRecDepth 100000 in
theorem nl_X10_85 : Cond.methodLinkNest RX10 85 yX2_init "JarGuess" ∈ gm_NW := gm_n2 (i := 72) rfl rfl
set_option maxRecDepth 100000 in
theorem nl_X2_9 : Cond.methodLinkNest RX2 9 yX1_init "JarGuess" ∈ gm_NW := gm_n2 (i := 77) rfl rfl
set_option maxRecDepth 100000 in
theorem nl_X2_18 : Cond.methodLinkNest RX2 18 yX8_init "JarGuess" ∈ gm_NW := gm_n2 (i := 79) rfl rfl
set_option maxRecDepth 100000 in
theorem nl_X7_11 : Cond.methodLinkNest RX7 11 yX4_init "JarGuess" ∈ gm_NW := gm_n1 (i := 217) rfl rfl
set_option maxRecDepth 100000 in
theorem kl_X10_218 : Cond.constantLong RX10 218 (10000) ∈ gm_TB := gm_t3 (i := 145) rfl rfl
set_option maxRecDepth 100000 in
theorem kl_X10_290 : Cond.constantLong RX10 290 (-3) ∈ gm_TB := gm_t4 (i := 65) rfl rfl
set_option maxRecDepth 100000 in
theorem kl_X10_302 : Cond.constantLong RX10 302 (-2) ∈ gm_TB := gm_t4 (i := 86) rfl rfl
set_option maxRecDepth 100000 in
theorem kl_X10_304 : Cond.constantLong RX10 304 (-1) ∈ gm_TB := gm_t4 (i := 87) rfl rfl
set_option maxRecDepth 100000 in
theorem kl_X10_331 : Cond.constantLong RX10 331 (-5) ∈ gm_TB := gm_t4 (i := 158) rfl rfl
set_option maxRecDepth 100000 in
theorem kl_X10_363 : Cond.constantLong RX10 363 (100) ∈ gm_TB := gm_t4 (i := 222) rfl rfl
set_option maxRecDepth 100000 in
theorem kl_X10_382 : Cond.constantLong RX10 382 (-6) ∈ gm_TB := gm_t5 (i := 17) rfl rfl
set_option maxRecDepth 100000 in
theorem kl_X10_384 : Cond.constantLong RX10 384 (-7) ∈ gm_TB := gm_t5 (i := 18) rfl rfl
set_option maxRecDepth 100000 in
theorem kl_X7_94 : Cond.constantLong RX7 94 (10) ∈ gm_TB := gm_t4 (i := 19) rfl rfl
set_option maxRecDepth 100000 in
theorem kl_X7_112 : Cond.constantLong RX7 112 (2) ∈ gm_TB := gm_t4 (i := 92) rfl rfl
set_option maxRecDepth 100000 in
theorem kl_X7_148 : Cond.constantLong RX7 148 (-1) ∈ gm_TB := gm_t4 (i := 163) rfl rfl
set_option maxRecDepth 100000 in
theorem kl_X9_28 : Cond.constantLong RX9 28 (-1) ∈ gm_TB := gm_t4 (i := 132) rfl rfl
set_option maxRecDepth 100000 in
theorem kl_L_186 : Cond.constantLong RL 186 (4294967295) ∈ gm_TB := gm_t7 (i := 98) rfl rfl
set_option maxRecDepth 100000 in
theorem kl_X11_149 : Cond.constantLong RX11 149 (4) ∈ gm_TB := gm_t5 (i := 231) rfl rfl
set_option maxRecDepth 100000 in
theorem kl_X11_157 : Cond.constantLong RX11 157 (999) ∈ gm_TB := gm_t6 (i := 4) rfl rfl
set_option maxRecDepth 100000 in
theorem kl_X11_177 : Cond.constantLong RX11 177 (2000) ∈ gm_TB := gm_t6 (i := 32) rfl rfl
set_option maxRecDepth 100000 in
theorem kl_X11_192 : Cond.constantLong RX11 192 (10000) ∈ gm_TB := gm_t6 (i := 75) rfl rfl
set_option maxRecDepth 100000 in
theorem kl_X11_194 : Cond.constantLong RX11 194 (3) ∈ gm_TB := gm_t6 (i := 65) rfl rfl
set_option maxRecDepth 100000 in
theorem kl_X11_196 : Cond.constantLong RX11 196 (2) ∈ gm_TB := gm_t6 (i := 66) rfl rfl
set_option maxRecDepth 100000 in
theorem kl_X11_214 : Cond.constantLong RX11 214 (40) ∈ gm_TB := gm_t6 (i := 88) rfl rfl
set_option maxRecDepth 100000 in
theorem kl_X11_250 : Cond.constantLong RX11 250 (-3) ∈ gm_TB := gm_t6 (i := 138) rfl rfl
set_option maxRecDepth 100000 in
theorem kl_X11_255 : Cond.constantLong RX11 255 (-2) ∈ gm_TB := gm_t6 (i := 175) rfl rfl
set_option maxRecDepth 100000 in
theorem kl_X11_257 : Cond.constantLong RX11 257 (-1) ∈ gm_TB := gm_t6 (i := 176) rfl rfl
set_option maxRecDepth 100000 in
theorem kl_X11_284 : Cond.constantLong RX11 284 (-5) ∈ gm_TB := gm_t6 (i := 217) rfl rfl
set_option maxRecDepth 100000 in
theorem kl_X11_308 : Cond.constantLong RX11 308 (10) ∈ gm_TB := gm_t7 (i := 22) rfl rfl
set_option maxRecDepth 100000 in
theorem kl_X11_310 : Cond.constantLong RX11 310 (8) ∈ gm_TB := gm_t7 (i := 35) rfl rfl
set_option maxRecDepth 100000 in
theorem kl_X11_312 : Cond.constantLong RX11 312 (20) ∈ gm_TB := gm_t7 (i := 36) rfl rfl
set_option maxRecDepth 100000 in
theorem kl_X11_317 : Cond.constantLong RX11 317 (100) ∈ gm_TB := gm_t7 (i := 45) rfl rfl
set_option maxRecDepth 100000 in
theorem kl_X11_319 : Cond.constantLong RX11 319 (30) ∈ gm_TB := gm_t7 (i := 50) rfl rfl
set_option maxRecDepth 100000 in
theorem kl_X11_321 : Cond.constantLong RX11 321 (99) ∈ gm_TB := gm_t7 (i := 55) rfl rfl
set_option maxRecDepth 100000 in
theorem kl_X11_327 : Cond.constantLong RX11 327 (9999) ∈ gm_TB := gm_t7 (i := 63) rfl rfl
set_option maxRecDepth 100000 in
theorem kl_X11_329 : Cond.constantLong RX11 329 (-6) ∈ gm_TB := gm_t7 (i := 72) rfl rfl
set_option maxRecDepth 100000 in
theorem kl_X11_331 : Cond.constantLong RX11 331 (-7) ∈ gm_TB := gm_t7 (i := 73) rfl rfl
set_option maxRecDepth 100000 in
theorem kl_X11_340 : Cond.constantLong RX11 340 (7) ∈ gm_TB := gm_t7 (i := 97) rfl rfl
set_option maxRecDepth 100000 in
theorem ki_X0_15 : Cond.constant RX0 15 (1103515245) ∈ gm_TB := gm_t3 (i := 181) rfl rfl
set_option maxRecDepth 100000 in
theorem ki_X11_207 : Cond.constant RX11 207 (1103515245) ∈ gm_TB := gm_t6 (i := 97) rfl rfl
set_option maxRecDepth 100000 in
theorem cl_X10_13 : Cond.classLink RX10 13 RX1 ∈ gm_TB := gm_t1 (i := 27) rfl rfl
set_option maxRecDepth 100000 in
theorem cl_X10_20 : Cond.classLink RX10 20 RX5 ∈ gm_TB := gm_t1 (i := 112) rfl rfl
set_option maxRecDepth 100000 in
theorem cl_X10_27 : Cond.classLink RX10 27 RX8 ∈ gm_TB := gm_t1 (i := 148) rfl rfl
set_option maxRecDepth 100000 in
theorem cl_X10_34 : Cond.classLink RX10 34 RX0 ∈ gm_TB := gm_t1 (i := 171) rfl rfl
set_option maxRecDepth 100000 in
theorem cl_X10_41 : Cond.classLink RX10 41 RX3 ∈ gm_TB := gm_t1 (i := 181) rfl rfl
set_option maxRecDepth 100000 in
theorem cl_X10_48 : Cond.classLink RX10 48 RX6 ∈ gm_TB := gm_t1 (i := 205) rfl rfl
set_option maxRecDepth 100000 in
theorem cl_X10_54 : Cond.classLink RX10 54 RX2 ∈ gm_TB := gm_t1 (i := 207) rfl rfl
set_option maxRecDepth 100000 in
theorem cl_X10_60 : Cond.classLink RX10 60 RX7 ∈ gm_TB := gm_t1 (i := 209) rfl rfl
set_option maxRecDepth 100000 in
theorem cl_X10_75 : Cond.classLink RX10 75 RX9 ∈ gm_TB := gm_t2 (i := 35) rfl rfl
set_option maxRecDepth 100000 in
theorem cl_X2_7 : Cond.classLink RX2 7 RX1 ∈ gm_TB := gm_t2 (i := 76) rfl rfl
set_option maxRecDepth 100000 in
theorem cl_X2_16 : Cond.classLink RX2 16 RX8 ∈ gm_TB := gm_t2 (i := 78) rfl rfl
set_option maxRecDepth 100000 in
theorem cl_X7_9 : Cond.classLink RX7 9 RX4 ∈ gm_TB := gm_t1 (i := 215) rfl rfl
set_option maxRecDepth 100000 in
theorem cl_X9_15 : Cond.classLink RX9 15 "[[I" ∈ gm_TB := gm_t2 (i := 41) rfl rfl
set_option maxRecDepth 100000 in
theorem cl_L_7 : Cond.classLink RL 7 RX10 ∈ gm_TB := gm_t1 (i := 19) rfl rfl
set_option maxRecDepth 100000 in
theorem cl_L_10 : Cond.classLink RL 10 RX11 ∈ gm_TB := gm_t5 (i := 56) rfl rfl
set_option maxRecDepth 100000 in
theorem is_X10 : Cond.instantiable RX10 13 ∈ gm_TB ∧ Cond.initialized RX10 ∈ gm_TB := ⟨gm_t1 (i := 20) rfl rfl, gm_t1 (i := 1) rfl rfl⟩
set_option maxRecDepth 100000 in
theorem is_X1 : Cond.instantiable RX1 14 ∈ gm_TB ∧ Cond.initialized RX1 ∈ gm_TB := ⟨gm_t1 (i := 28) rfl rfl, gm_t1 (i := 2) rfl rfl⟩
set_option maxRecDepth 100000 in
theorem is_X5 : Cond.instantiable RX5 9 ∈ gm_TB ∧ Cond.initialized RX5 ∈ gm_TB := ⟨gm_t1 (i := 113) rfl rfl, gm_t1 (i := 3) rfl rfl⟩
set_option maxRecDepth 100000 in
theorem is_X8 : Cond.instantiable RX8 3 ∈ gm_TB ∧ Cond.initialized RX8 ∈ gm_TB := ⟨gm_t1 (i := 149) rfl rfl, gm_t1 (i := 4) rfl rfl⟩
set_option maxRecDepth 100000 in
theorem is_X0 : Cond.instantiable RX0 1 ∈ gm_TB ∧ Cond.initialized RX0 ∈ gm_TB := ⟨gm_t1 (i := 172) rfl rfl, gm_t1 (i := 5) rfl rfl⟩
set_option maxRecDepth 100000 in
theorem is_X3 : Cond.instantiable RX3 5 ∈ gm_TB ∧ Cond.initialized RX3 ∈ gm_TB := ⟨gm_t1 (i := 182) rfl rfl, gm_t1 (i := 6) rfl rfl⟩
set_option maxRecDepth 100000 in
theorem is_X7 : Cond.instantiable RX7 11 ∈ gm_TB ∧ Cond.initialized RX7 ∈ gm_TB := ⟨gm_t1 (i := 210) rfl rfl, gm_t1 (i := 7) rfl rfl⟩
set_option maxRecDepth 100000 in
theorem is_X4 : Cond.instantiable RX4 3 ∈ gm_TB ∧ Cond.initialized RX4 ∈ gm_TB := ⟨gm_t1 (i := 216) rfl rfl, gm_t1 (i := 8) rfl rfl⟩
set_option maxRecDepth 100000 in
theorem is_X9 : Cond.instantiable RX9 3 ∈ gm_TB ∧ Cond.initialized RX9 ∈ gm_TB := ⟨gm_t2 (i := 36) rfl rfl, gm_t1 (i := 9) rfl rfl⟩
set_option maxRecDepth 100000 in
theorem is_X6 : Cond.instantiable RX6 3 ∈ gm_TB ∧ Cond.initialized RX6 ∈ gm_TB := ⟨gm_t2 (i := 54) rfl rfl, gm_t1 (i := 10) rfl rfl⟩
set_option maxRecDepth 100000 in
theorem is_X2 : Cond.instantiable RX2 3 ∈ gm_TB ∧ Cond.initialized RX2 ∈ gm_TB := ⟨gm_t2 (i := 71) rfl rfl, gm_t1 (i := 11) rfl rfl⟩
set_option maxRecDepth 100000 in
theorem is_X11 : Cond.instantiable RX11 32 ∈ gm_TB ∧ Cond.initialized RX11 ∈ gm_TB := ⟨gm_t5 (i := 57) rfl rfl, gm_t1 (i := 12) rfl rfl⟩
set_option maxRecDepth 100000 in
theorem mw_max : gm_MM Lib.Math.max.name Lib.Math.max.code 2 := ⟨gm_t3 (i := 80) rfl rfl, gm_t1 (i := 13) rfl rfl, gm_t3 (i := 81) rfl rfl⟩
set_option maxRecDepth 100000 in
theorem mw_min : gm_MM Lib.Math.min.name Lib.Math.min.code 2 := ⟨gm_t2 (i := 149) rfl rfl, gm_t1 (i := 13) rfl rfl, gm_t2 (i := 150) rfl rfl⟩
set_option maxRecDepth 100000 in
theorem mw_abs : gm_MM Lib.Math.abs.name Lib.Math.abs.code 1 := ⟨gm_t3 (i := 77) rfl rfl, gm_t1 (i := 13) rfl rfl, gm_t3 (i := 78) rfl rfl⟩
set_option maxRecDepth 100000 in
theorem mw_copy : Cond.native arraycopyName ∈ gm_TB ∧ Cond.static arraycopyName ∈ gm_TB ∧ Cond.initialized "java/lang/System" ∈ gm_TB := ⟨gm_t3 (i := 27) rfl rfl, gm_t3 (i := 26) rfl rfl, gm_t1 (i := 18) rfl rfl⟩
set_option maxRecDepth 100000 in
theorem mw_obj : Cond.instanceMethod objectInit ∈ gm_TB ∧ Cond.code objectInit ⟨#[0xb1]⟩ 1 none ∈ gm_TB := ⟨gm_t1 (i := 25) rfl rfl, gm_t1 (i := 26) rfl rfl⟩
set_option maxRecDepth 100000 in
theorem aw_0 : Cond.arrayClass (gm_tyA 0) ∈ gm_TB := gm_t1 (i := 111) rfl rfl
set_option maxRecDepth 100000 in
theorem aw_1 : Cond.arrayClass (gm_tyA 1) ∈ gm_TB := gm_t1 (i := 204) rfl rfl
set_option maxRecDepth 100000 in
theorem aw_2 : Cond.arrayClass (gm_tyA 2) ∈ gm_TB := gm_t1 (i := 110) rfl rfl
set_option maxRecDepth 100000 in
theorem aw_3 : Cond.arrayClass (gm_tyA 3) ∈ gm_TB := gm_t5 (i := 162) rfl rfl
