theorem ms_init : Cond.initialized "java/lang/Math" ∈ TB := tb1 (i := 18) (by decide +kernel) rfl
theorem ms_mmax : Cond.static Lib.Math.max.name ∈ TB := tb3 (i := 221) (by decide +kernel) rfl
theorem mc_mmax : Cond.code Lib.Math.max.name Lib.Math.max.code 2 (some .int) ∈ TB := tb3 (i := 222) (by decide +kernel) rfl
theorem ms_mmin : Cond.static Lib.Math.min.name ∈ TB := tb3 (i := 224) (by decide +kernel) rfl
theorem mc_mmin : Cond.code Lib.Math.min.name Lib.Math.min.code 2 (some .int) ∈ TB := tb3 (i := 225) (by decide +kernel) rfl
theorem lk_X11_10 : LK RX11 10 RX11 TX11 0 := Or.inl (tb3 (i := 99) (by decide +kernel) rfl)
theorem lt_X11_10 : Cond.fieldLink RX11 10 RX11 (TX11 0).2.1 (TX11 0).2.2.1 ∈ TB := tb3 (i := 99) (by decide +kernel) rfl
theorem lk_X11_19 : LK RX11 19 RX11 TX11 1 := Or.inl (tb3 (i := 100) (by decide +kernel) rfl)
theorem lt_X11_19 : Cond.fieldLink RX11 19 RX11 (TX11 1).2.1 (TX11 1).2.2.1 ∈ TB := tb3 (i := 100) (by decide +kernel) rfl
theorem lk_X11_26 : LK RX11 26 RX11 TX11 2 := Or.inl (tb3 (i := 101) (by decide +kernel) rfl)
theorem lt_X11_26 : Cond.fieldLink RX11 26 RX11 (TX11 2).2.1 (TX11 2).2.2.1 ∈ TB := tb3 (i := 101) (by decide +kernel) rfl
theorem lk_X11_33 : LK RX11 33 RX11 TX11 3 := Or.inl (tb3 (i := 102) (by decide +kernel) rfl)
theorem lk_X11_37 : LK RX11 37 RX11 TX11 4 := Or.inl (tb3 (i := 103) (by decide +kernel) rfl)
theorem lk_X11_43 : LK RX11 43 RX11 TX11 5 := Or.inl (tb3 (i := 104) (by decide +kernel) rfl)
theorem lk_X11_47 : LK RX11 47 RX11 TX11 6 := Or.inl (tb3 (i := 105) (by decide +kernel) rfl)
theorem lk_X11_55 : LK RX11 55 RX11 TX11 7 := Or.inl (tb3 (i := 106) (by decide +kernel) rfl)
theorem lt_X11_55 : Cond.fieldLink RX11 55 RX11 (TX11 7).2.1 (TX11 7).2.2.1 ∈ TB := tb3 (i := 106) (by decide +kernel) rfl
theorem lk_X11_62 : LK RX11 62 RX11 TX11 8 := Or.inl (tb3 (i := 107) (by decide +kernel) rfl)
theorem lt_X11_62 : Cond.fieldLink RX11 62 RX11 (TX11 8).2.1 (TX11 8).2.2.1 ∈ TB := tb3 (i := 107) (by decide +kernel) rfl
theorem lk_X11_69 : LK RX11 69 RX11 TX11 9 := Or.inl (tb3 (i := 108) (by decide +kernel) rfl)
theorem lt_X11_69 : Cond.fieldLink RX11 69 RX11 (TX11 9).2.1 (TX11 9).2.2.1 ∈ TB := tb3 (i := 108) (by decide +kernel) rfl
theorem lk_X11_73 : LK RX11 73 RX11 TX11 10 := Or.inl (tb3 (i := 109) (by decide +kernel) rfl)
theorem lt_X11_73 : Cond.fieldLink RX11 73 RX11 (TX11 10).2.1 (TX11 10).2.2.1 ∈ TB := tb3 (i := 109) (by decide +kernel) rfl
theorem lk_X11_76 : LK RX11 76 RX11 TX11 11 := Or.inl (tb3 (i := 110) (by decide +kernel) rfl)
theorem lt_X11_76 : Cond.fieldLink RX11 76 RX11 (TX11 11).2.1 (TX11 11).2.2.1 ∈ TB := tb3 (i := 110) (by decide +kernel) rfl
theorem lk_X11_82 : LK RX11 82 RX11 TX11 12 := Or.inl (tb3 (i := 111) (by decide +kernel) rfl)
theorem lt_X11_82 : Cond.fieldLink RX11 82 RX11 (TX11 12).2.1 (TX11 12).2.2.1 ∈ TB := tb3 (i := 111) (by decide +kernel) rfl
theorem lk_X11_89 : LK RX11 89 RX11 TX11 13 := Or.inl (tb3 (i := 112) (by decide +kernel) rfl)
theorem lt_X11_89 : Cond.fieldLink RX11 89 RX11 (TX11 13).2.1 (TX11 13).2.2.1 ∈ TB := tb3 (i := 112) (by decide +kernel) rfl
theorem lk_X11_96 : LK RX11 96 RX11 TX11 14 := Or.inl (tb3 (i := 113) (by decide +kernel) rfl)
theorem lt_X11_96 : Cond.fieldLink RX11 96 RX11 (TX11 14).2.1 (TX11 14).2.2.1 ∈ TB := tb3 (i := 113) (by decide +kernel) rfl
theorem lk_X11_100 : LK RX11 100 RX11 TX11 15 := Or.inl (tb3 (i := 114) (by decide +kernel) rfl)
theorem lt_X11_100 : Cond.fieldLink RX11 100 RX11 (TX11 15).2.1 (TX11 15).2.2.1 ∈ TB := tb3 (i := 114) (by decide +kernel) rfl
theorem lk_X11_115 : LK RX11 115 RX7 TX7 1 := Or.inr ⟨"StruckCounts", nw1 (i := 38) (by decide +kernel) rfl⟩
theorem lk_X11_133 : LK RX11 133 RX11 TX11 17 := Or.inl (tb3 (i := 116) (by decide +kernel) rfl)
theorem lk_X11_137 : LK RX11 137 RX1 TX1 0 := Or.inr ⟨"StruckCounts", nw1 (i := 179) (by decide +kernel) rfl⟩
theorem lk_X11_140 : LK RX11 140 RX2 TX2 7 := Or.inr ⟨"StruckCounts", nw2 (i := 109) (by decide +kernel) rfl⟩
theorem lk_X11_143 : LK RX11 143 RX2 TX2 8 := Or.inr ⟨"StruckCounts", nw2 (i := 110) (by decide +kernel) rfl⟩
theorem lk_X11_149 : LK RX11 149 RX1 TX1 6 := Or.inr ⟨"StruckCounts", nw1 (i := 194) (by decide +kernel) rfl⟩
theorem lk_X11_168 : LK RX11 168 RX5 TX5 8 := Or.inr ⟨"StruckCounts", nw2 (i := 48) (by decide +kernel) rfl⟩
theorem lk_X11_177 : LK RX11 177 RX5 TX5 10 := Or.inr ⟨"StruckCounts", nw2 (i := 52) (by decide +kernel) rfl⟩
theorem lk_X11_180 : LK RX11 180 RX5 TX5 11 := Or.inr ⟨"StruckCounts", nw2 (i := 54) (by decide +kernel) rfl⟩
theorem lk_X11_183 : LK RX11 183 RX5 TX5 12 := Or.inr ⟨"StruckCounts", nw2 (i := 56) (by decide +kernel) rfl⟩
theorem lk_X11_189 : LK RX11 189 RX1 TX1 8 := Or.inr ⟨"StruckCounts", nw1 (i := 199) (by decide +kernel) rfl⟩
theorem lk_X11_198 : LK RX11 198 RX5 TX5 13 := Or.inr ⟨"StruckCounts", nw2 (i := 58) (by decide +kernel) rfl⟩
theorem lk_X11_201 : LK RX11 201 RX5 TX5 14 := Or.inr ⟨"StruckCounts", nw2 (i := 61) (by decide +kernel) rfl⟩
theorem lk_X11_210 : LK RX11 210 RX1 TX1 11 := Or.inr ⟨"StruckCounts", nw1 (i := 206) (by decide +kernel) rfl⟩
theorem lk_X11_224 : LK RX11 224 RX5 TX5 1 := Or.inr ⟨"StruckCounts", nw2 (i := 38) (by decide +kernel) rfl⟩
theorem lk_X11_243 : LK RX11 243 RX1 TX1 1 := Or.inr ⟨"StruckCounts", nw1 (i := 182) (by decide +kernel) rfl⟩
theorem lk_X11_257 : LK RX11 257 RX5 TX5 3 := Or.inr ⟨"StruckCounts", nw2 (i := 42) (by decide +kernel) rfl⟩
theorem lk_X11_264 : LK RX11 264 RX5 TX5 2 := Or.inr ⟨"StruckCounts", nw2 (i := 40) (by decide +kernel) rfl⟩
theorem lk_X11_270 : LK RX11 270 RX5 TX5 0 := Or.inr ⟨"StruckCounts", nw2 (i := 36) (by decide +kernel) rfl⟩
theorem lk_X11_277 : LK RX11 277 RX0 TX0 4 := Or.inr ⟨"StruckCounts", nw2 (i := 145) (by decide +kernel) rfl⟩
theorem lk_X11_287 : LK RX11 287 RX1 TX1 17 := Or.inr ⟨"StruckCounts", nw1 (i := 225) (by decide +kernel) rfl⟩
theorem lk_X11_319 : LK RX11 319 RX3 TX3 2 := Or.inr ⟨"StruckCounts", nw2 (i := 195) (by decide +kernel) rfl⟩
theorem lk_X11_320 : LK RX11 320 RX3 TX3 3 := Or.inr ⟨"StruckCounts", nw2 (i := 197) (by decide +kernel) rfl⟩
theorem lk_X11_360 : LK RX11 360 RX6 TX6 5 := Or.inr ⟨"StruckCounts", nw2 (i := 226) (by decide +kernel) rfl⟩
theorem lk_X11_361 : LK RX11 361 RX6 TX6 0 := Or.inr ⟨"StruckCounts", nw2 (i := 217) (by decide +kernel) rfl⟩
theorem lk_X11_372 : LK RX11 372 RX6 TX6 2 := Or.inr ⟨"StruckCounts", nw2 (i := 221) (by decide +kernel) rfl⟩
theorem lk_X11_377 : LK RX11 377 RX6 TX6 3 := Or.inr ⟨"StruckCounts", nw2 (i := 223) (by decide +kernel) rfl⟩
theorem lk_X11_385 : LK RX11 385 RX6 TX6 1 := Or.inr ⟨"StruckCounts", nw2 (i := 219) (by decide +kernel) rfl⟩
theorem lk_X11_398 : LK RX11 398 RX1 TX1 13 := Or.inr ⟨"StruckCounts", nw1 (i := 214) (by decide +kernel) rfl⟩
theorem lk_X11_403 : LK RX11 403 RX1 TX1 12 := Or.inr ⟨"StruckCounts", nw1 (i := 211) (by decide +kernel) rfl⟩
theorem lk_X11_410 : LK RX11 410 RX11 TX11 16 := Or.inl (tb3 (i := 115) (by decide +kernel) rfl)
theorem lk_X11_416 : LK RX11 416 RX1 TX1 5 := Or.inr ⟨"StruckCounts", nw1 (i := 192) (by decide +kernel) rfl⟩
theorem lk_X11_419 : LK RX11 419 RX5 TX5 9 := Or.inr ⟨"StruckCounts", nw2 (i := 50) (by decide +kernel) rfl⟩
theorem lk_X11_464 : LK RX11 464 RX9 TX9 4 := Or.inr ⟨"StruckCounts", nw2 (i := 174) (by decide +kernel) rfl⟩
theorem lk_X11_487 : LK RX11 487 RX1 TX1 16 := Or.inr ⟨"StruckCounts", nw1 (i := 222) (by decide +kernel) rfl⟩
theorem lk_X11_492 : LK RX11 492 RX1 TX1 2 := Or.inr ⟨"StruckCounts", nw1 (i := 185) (by decide +kernel) rfl⟩
theorem lk_X0_11 : LK RX0 11 RX0 TX0 0 := Or.inl (tb2 (i := 140) (by decide +kernel) rfl)
theorem lt_X0_11 : Cond.fieldLink RX0 11 RX0 (TX0 0).2.1 (TX0 0).2.2.1 ∈ TB := tb2 (i := 140) (by decide +kernel) rfl
theorem lk_X0_17 : LK RX0 17 RX0 TX0 1 := Or.inl (tb2 (i := 141) (by decide +kernel) rfl)
theorem lt_X0_17 : Cond.fieldLink RX0 17 RX0 (TX0 1).2.1 (TX0 1).2.2.1 ∈ TB := tb2 (i := 141) (by decide +kernel) rfl
theorem lk_X0_21 : LK RX0 21 RX0 TX0 4 := Or.inl (tb2 (i := 144) (by decide +kernel) rfl)
theorem lk_X0_25 : LK RX0 25 RX0 TX0 2 := Or.inl (tb2 (i := 142) (by decide +kernel) rfl)
theorem lk_X0_28 : LK RX0 28 RX0 TX0 3 := Or.inl (tb2 (i := 143) (by decide +kernel) rfl)
theorem lk_X1_11 : LK RX1 11 RX1 TX1 6 := Or.inl (tb1 (i := 193) (by decide +kernel) rfl)
theorem lt_X1_11 : Cond.fieldLink RX1 11 RX1 (TX1 6).2.1 (TX1 6).2.2.1 ∈ TB := tb1 (i := 193) (by decide +kernel) rfl
theorem lk_X1_15 : LK RX1 15 RX1 TX1 7 := Or.inl (tb1 (i := 196) (by decide +kernel) rfl)
theorem lt_X1_15 : Cond.fieldLink RX1 15 RX1 (TX1 7).2.1 (TX1 7).2.2.1 ∈ TB := tb1 (i := 196) (by decide +kernel) rfl
theorem lk_X1_18 : LK RX1 18 RX1 TX1 8 := Or.inl (tb1 (i := 198) (by decide +kernel) rfl)
theorem lt_X1_18 : Cond.fieldLink RX1 18 RX1 (TX1 8).2.1 (TX1 8).2.2.1 ∈ TB := tb1 (i := 198) (by decide +kernel) rfl
theorem lk_X1_21 : LK RX1 21 RX1 TX1 9 := Or.inl (tb1 (i := 201) (by decide +kernel) rfl)
theorem lt_X1_21 : Cond.fieldLink RX1 21 RX1 (TX1 9).2.1 (TX1 9).2.2.1 ∈ TB := tb1 (i := 201) (by decide +kernel) rfl
theorem lk_X1_24 : LK RX1 24 RX1 TX1 10 := Or.inl (tb1 (i := 203) (by decide +kernel) rfl)
theorem lt_X1_24 : Cond.fieldLink RX1 24 RX1 (TX1 10).2.1 (TX1 10).2.2.1 ∈ TB := tb1 (i := 203) (by decide +kernel) rfl
theorem lk_X1_27 : LK RX1 27 RX1 TX1 11 := Or.inl (tb1 (i := 205) (by decide +kernel) rfl)
theorem lt_X1_27 : Cond.fieldLink RX1 27 RX1 (TX1 11).2.1 (TX1 11).2.2.1 ∈ TB := tb1 (i := 205) (by decide +kernel) rfl
theorem lk_X1_30 : LK RX1 30 RX1 TX1 12 := Or.inl (tb1 (i := 208) (by decide +kernel) rfl)
theorem lt_X1_30 : Cond.fieldLink RX1 30 RX1 (TX1 12).2.1 (TX1 12).2.2.1 ∈ TB := tb1 (i := 208) (by decide +kernel) rfl
theorem lk_X1_33 : LK RX1 33 RX1 TX1 14 := Or.inl (tb1 (i := 215) (by decide +kernel) rfl)
theorem lt_X1_33 : Cond.fieldLink RX1 33 RX1 (TX1 14).2.1 (TX1 14).2.2.1 ∈ TB := tb1 (i := 215) (by decide +kernel) rfl
theorem lk_X1_36 : LK RX1 36 RX1 TX1 15 := Or.inl (tb1 (i := 218) (by decide +kernel) rfl)
theorem lt_X1_36 : Cond.fieldLink RX1 36 RX1 (TX1 15).2.1 (TX1 15).2.2.1 ∈ TB := tb1 (i := 218) (by decide +kernel) rfl
theorem lk_X1_39 : LK RX1 39 RX1 TX1 16 := Or.inl (tb1 (i := 221) (by decide +kernel) rfl)
theorem lt_X1_39 : Cond.fieldLink RX1 39 RX1 (TX1 16).2.1 (TX1 16).2.2.1 ∈ TB := tb1 (i := 221) (by decide +kernel) rfl
theorem lk_X1_45 : LK RX1 45 RX1 TX1 17 := Or.inl (tb1 (i := 223) (by decide +kernel) rfl)
theorem lt_X1_45 : Cond.fieldLink RX1 45 RX1 (TX1 17).2.1 (TX1 17).2.2.1 ∈ TB := tb1 (i := 223) (by decide +kernel) rfl
theorem lk_X1_49 : LK RX1 49 RX1 TX1 18 := Or.inl (tb1 (i := 226) (by decide +kernel) rfl)
theorem lt_X1_49 : Cond.fieldLink RX1 49 RX1 (TX1 18).2.1 (TX1 18).2.2.1 ∈ TB := tb1 (i := 226) (by decide +kernel) rfl
theorem lk_X1_53 : LK RX1 53 RX1 TX1 19 := Or.inl (tb1 (i := 227) (by decide +kernel) rfl)
theorem lt_X1_53 : Cond.fieldLink RX1 53 RX1 (TX1 19).2.1 (TX1 19).2.2.1 ∈ TB := tb1 (i := 227) (by decide +kernel) rfl
theorem lk_X1_56 : LK RX1 56 RX1 TX1 0 := Or.inl (tb1 (i := 177) (by decide +kernel) rfl)
theorem lk_X1_60 : LK RX1 60 RX1 TX1 1 := Or.inl (tb1 (i := 180) (by decide +kernel) rfl)
theorem lk_X1_63 : LK RX1 63 RX1 TX1 2 := Or.inl (tb1 (i := 183) (by decide +kernel) rfl)
theorem lk_X1_66 : LK RX1 66 RX1 TX1 3 := Or.inl (tb1 (i := 186) (by decide +kernel) rfl)
theorem lk_X1_69 : LK RX1 69 RX1 TX1 4 := Or.inl (tb1 (i := 188) (by decide +kernel) rfl)
theorem lk_X1_72 : LK RX1 72 RX1 TX1 5 := Or.inl (tb1 (i := 190) (by decide +kernel) rfl)
theorem lk_X1_75 : LK RX1 75 RX1 TX1 13 := Or.inl (tb1 (i := 212) (by decide +kernel) rfl)
theorem lk_X2_12 : LK RX2 12 RX2 TX2 2 := Or.inl (tb2 (i := 103) (by decide +kernel) rfl)
theorem lt_X2_12 : Cond.fieldLink RX2 12 RX2 (TX2 2).2.1 (TX2 2).2.2.1 ∈ TB := tb2 (i := 103) (by decide +kernel) rfl
theorem lk_X2_18 : LK RX2 18 RX2 TX2 0 := Or.inl (tb2 (i := 101) (by decide +kernel) rfl)
theorem lt_X2_18 : Cond.fieldLink RX2 18 RX2 (TX2 0).2.1 (TX2 0).2.2.1 ∈ TB := tb2 (i := 101) (by decide +kernel) rfl
theorem lk_X2_22 : LK RX2 22 RX2 TX2 1 := Or.inl (tb2 (i := 102) (by decide +kernel) rfl)
theorem lt_X2_22 : Cond.fieldLink RX2 22 RX2 (TX2 1).2.1 (TX2 1).2.2.1 ∈ TB := tb2 (i := 102) (by decide +kernel) rfl
theorem lk_X2_26 : LK RX2 26 RX2 TX2 3 := Or.inl (tb2 (i := 104) (by decide +kernel) rfl)
theorem lk_X2_30 : LK RX2 30 RX2 TX2 4 := Or.inl (tb2 (i := 105) (by decide +kernel) rfl)
theorem lk_X2_54 : LK RX2 54 RX1 TX1 0 := Or.inr ⟨"StruckCounts", nw1 (i := 178) (by decide +kernel) rfl⟩
theorem lk_X2_65 : LK RX2 65 RX2 TX2 5 := Or.inl (tb2 (i := 106) (by decide +kernel) rfl)
theorem lk_X2_68 : LK RX2 68 RX2 TX2 7 := Or.inl (tb2 (i := 108) (by decide +kernel) rfl)
theorem lk_X2_95 : LK RX2 95 RX1 TX1 1 := Or.inr ⟨"StruckCounts", nw1 (i := 181) (by decide +kernel) rfl⟩
theorem lk_X2_101 : LK RX2 101 RX2 TX2 6 := Or.inl (tb2 (i := 107) (by decide +kernel) rfl)
theorem lk_X2_108 : LK RX2 108 RX1 TX1 7 := Or.inr ⟨"StruckCounts", nw1 (i := 197) (by decide +kernel) rfl⟩
theorem lk_X2_116 : LK RX2 116 RX1 TX1 6 := Or.inr ⟨"StruckCounts", nw1 (i := 195) (by decide +kernel) rfl⟩
theorem lk_X2_119 : LK RX2 119 RX1 TX1 3 := Or.inr ⟨"StruckCounts", nw1 (i := 187) (by decide +kernel) rfl⟩
theorem lk_X2_122 : LK RX2 122 RX1 TX1 13 := Or.inr ⟨"StruckCounts", nw1 (i := 213) (by decide +kernel) rfl⟩
theorem lk_X2_125 : LK RX2 125 RX1 TX1 12 := Or.inr ⟨"StruckCounts", nw1 (i := 210) (by decide +kernel) rfl⟩
theorem lk_X2_134 : LK RX2 134 RX1 TX1 17 := Or.inr ⟨"StruckCounts", nw1 (i := 224) (by decide +kernel) rfl⟩
theorem lk_X2_144 : LK RX2 144 RX1 TX1 2 := Or.inr ⟨"StruckCounts", nw1 (i := 184) (by decide +kernel) rfl⟩
theorem lk_X2_154 : LK RX2 154 RX1 TX1 8 := Or.inr ⟨"StruckCounts", nw1 (i := 200) (by decide +kernel) rfl⟩
theorem lk_X2_157 : LK RX2 157 RX1 TX1 11 := Or.inr ⟨"StruckCounts", nw1 (i := 207) (by decide +kernel) rfl⟩
theorem lk_X2_164 : LK RX2 164 RX1 TX1 4 := Or.inr ⟨"StruckCounts", nw1 (i := 189) (by decide +kernel) rfl⟩
theorem lk_X2_170 : LK RX2 170 RX1 TX1 9 := Or.inr ⟨"StruckCounts", nw1 (i := 202) (by decide +kernel) rfl⟩
theorem lk_X2_176 : LK RX2 176 RX5 TX5 13 := Or.inr ⟨"StruckCounts", nw2 (i := 59) (by decide +kernel) rfl⟩
theorem lk_X2_190 : LK RX2 190 RX1 TX1 10 := Or.inr ⟨"StruckCounts", nw1 (i := 204) (by decide +kernel) rfl⟩
theorem lk_X2_197 : LK RX2 197 RX1 TX1 5 := Or.inr ⟨"StruckCounts", nw1 (i := 191) (by decide +kernel) rfl⟩
theorem lk_X2_200 : LK RX2 200 RX1 TX1 14 := Or.inr ⟨"StruckCounts", nw1 (i := 217) (by decide +kernel) rfl⟩
theorem lk_X2_203 : LK RX2 203 RX1 TX1 15 := Or.inr ⟨"StruckCounts", nw1 (i := 220) (by decide +kernel) rfl⟩
theorem lk_X2_232 : LK RX2 232 RX8 TX8 0 := Or.inr ⟨"StruckCounts", nw1 (i := 111) (by decide +kernel) rfl⟩
theorem lk_X2_237 : LK RX2 237 RX8 TX8 2 := Or.inr ⟨"StruckCounts", nw1 (i := 115) (by decide +kernel) rfl⟩
theorem lk_X2_240 : LK RX2 240 RX8 TX8 1 := Or.inr ⟨"StruckCounts", nw1 (i := 113) (by decide +kernel) rfl⟩
theorem lk_X2_243 : LK RX2 243 RX2 TX2 8 := Or.inl (tb2 (i := 111) (by decide +kernel) rfl)
theorem lk_X3_9 : LK RX3 9 RX3 TX3 0 := Or.inl (tb2 (i := 192) (by decide +kernel) rfl)
theorem lk_X3_15 : LK RX3 15 RX3 TX3 1 := Or.inl (tb2 (i := 193) (by decide +kernel) rfl)
theorem lk_X3_18 : LK RX3 18 RX3 TX3 2 := Or.inl (tb2 (i := 194) (by decide +kernel) rfl)
theorem lk_X3_21 : LK RX3 21 RX3 TX3 3 := Or.inl (tb2 (i := 196) (by decide +kernel) rfl)
theorem lk_X3_24 : LK RX3 24 RX3 TX3 4 := Or.inl (tb2 (i := 198) (by decide +kernel) rfl)
theorem lk_X4_11 : LK RX4 11 RX4 TX4 0 := Or.inl (tb1 (i := 136) (by decide +kernel) rfl)
theorem lt_X4_11 : Cond.fieldLink RX4 11 RX4 (TX4 0).2.1 (TX4 0).2.2.1 ∈ TB := tb1 (i := 136) (by decide +kernel) rfl
theorem lk_X4_15 : LK RX4 15 RX4 TX4 1 := Or.inl (tb1 (i := 137) (by decide +kernel) rfl)
theorem lt_X4_15 : Cond.fieldLink RX4 15 RX4 (TX4 1).2.1 (TX4 1).2.2.1 ∈ TB := tb1 (i := 137) (by decide +kernel) rfl
theorem lk_X4_18 : LK RX4 18 RX4 TX4 2 := Or.inl (tb1 (i := 138) (by decide +kernel) rfl)
theorem lt_X4_18 : Cond.fieldLink RX4 18 RX4 (TX4 2).2.1 (TX4 2).2.2.1 ∈ TB := tb1 (i := 138) (by decide +kernel) rfl
theorem lk_X4_21 : LK RX4 21 RX4 TX4 4 := Or.inl (tb1 (i := 140) (by decide +kernel) rfl)
theorem lk_X4_29 : LK RX4 29 RX10 TX10 0 := Or.inr ⟨"StruckCounts", nw1 (i := 172) (by decide +kernel) rfl⟩
theorem lk_X4_42 : LK RX4 42 RX4 TX4 5 := Or.inl (tb1 (i := 141) (by decide +kernel) rfl)
theorem lk_X4_45 : LK RX4 45 RX4 TX4 6 := Or.inl (tb1 (i := 142) (by decide +kernel) rfl)
theorem lk_X4_48 : LK RX4 48 RX1 TX1 12 := Or.inr ⟨"StruckCounts", nw1 (i := 209) (by decide +kernel) rfl⟩
theorem lk_X4_54 : LK RX4 54 RX1 TX1 14 := Or.inr ⟨"StruckCounts", nw1 (i := 216) (by decide +kernel) rfl⟩
theorem lk_X4_61 : LK RX4 61 RX1 TX1 15 := Or.inr ⟨"StruckCounts", nw1 (i := 219) (by decide +kernel) rfl⟩
theorem lk_X4_64 : LK RX4 64 RX4 TX4 3 := Or.inl (tb1 (i := 139) (by decide +kernel) rfl)
theorem lk_X5_9 : LK RX5 9 RX5 TX5 9 := Or.inl (tb2 (i := 49) (by decide +kernel) rfl)
theorem lt_X5_9 : Cond.fieldLink RX5 9 RX5 (TX5 9).2.1 (TX5 9).2.2.1 ∈ TB := tb2 (i := 49) (by decide +kernel) rfl
theorem lk_X5_15 : LK RX5 15 RX5 TX5 10 := Or.inl (tb2 (i := 51) (by decide +kernel) rfl)
theorem lt_X5_15 : Cond.fieldLink RX5 15 RX5 (TX5 10).2.1 (TX5 10).2.2.1 ∈ TB := tb2 (i := 51) (by decide +kernel) rfl
theorem lk_X5_18 : LK RX5 18 RX5 TX5 11 := Or.inl (tb2 (i := 53) (by decide +kernel) rfl)
theorem lt_X5_18 : Cond.fieldLink RX5 18 RX5 (TX5 11).2.1 (TX5 11).2.2.1 ∈ TB := tb2 (i := 53) (by decide +kernel) rfl
theorem lk_X5_21 : LK RX5 21 RX5 TX5 12 := Or.inl (tb2 (i := 55) (by decide +kernel) rfl)
theorem lt_X5_21 : Cond.fieldLink RX5 21 RX5 (TX5 12).2.1 (TX5 12).2.2.1 ∈ TB := tb2 (i := 55) (by decide +kernel) rfl
theorem lk_X5_24 : LK RX5 24 RX5 TX5 13 := Or.inl (tb2 (i := 57) (by decide +kernel) rfl)
theorem lt_X5_24 : Cond.fieldLink RX5 24 RX5 (TX5 13).2.1 (TX5 13).2.2.1 ∈ TB := tb2 (i := 57) (by decide +kernel) rfl
theorem lk_X5_27 : LK RX5 27 RX5 TX5 14 := Or.inl (tb2 (i := 60) (by decide +kernel) rfl)
theorem lt_X5_27 : Cond.fieldLink RX5 27 RX5 (TX5 14).2.1 (TX5 14).2.2.1 ∈ TB := tb2 (i := 60) (by decide +kernel) rfl
theorem lk_X5_30 : LK RX5 30 RX5 TX5 0 := Or.inl (tb2 (i := 35) (by decide +kernel) rfl)
theorem lk_X5_34 : LK RX5 34 RX5 TX5 1 := Or.inl (tb2 (i := 37) (by decide +kernel) rfl)
theorem lk_X5_38 : LK RX5 38 RX5 TX5 2 := Or.inl (tb2 (i := 39) (by decide +kernel) rfl)
theorem lk_X5_41 : LK RX5 41 RX5 TX5 3 := Or.inl (tb2 (i := 41) (by decide +kernel) rfl)
theorem lk_X5_44 : LK RX5 44 RX5 TX5 4 := Or.inl (tb2 (i := 43) (by decide +kernel) rfl)
theorem lk_X5_47 : LK RX5 47 RX5 TX5 5 := Or.inl (tb2 (i := 44) (by decide +kernel) rfl)
theorem lk_X5_50 : LK RX5 50 RX5 TX5 6 := Or.inl (tb2 (i := 45) (by decide +kernel) rfl)
theorem lk_X5_53 : LK RX5 53 RX5 TX5 7 := Or.inl (tb2 (i := 46) (by decide +kernel) rfl)
theorem lk_X5_56 : LK RX5 56 RX5 TX5 8 := Or.inl (tb2 (i := 47) (by decide +kernel) rfl)
theorem lk_X6_9 : LK RX6 9 RX6 TX6 0 := Or.inl (tb2 (i := 216) (by decide +kernel) rfl)
theorem lt_X6_9 : Cond.fieldLink RX6 9 RX6 (TX6 0).2.1 (TX6 0).2.2.1 ∈ TB := tb2 (i := 216) (by decide +kernel) rfl
theorem lk_X6_15 : LK RX6 15 RX6 TX6 1 := Or.inl (tb2 (i := 218) (by decide +kernel) rfl)
theorem lt_X6_15 : Cond.fieldLink RX6 15 RX6 (TX6 1).2.1 (TX6 1).2.2.1 ∈ TB := tb2 (i := 218) (by decide +kernel) rfl
theorem lk_X6_18 : LK RX6 18 RX6 TX6 2 := Or.inl (tb2 (i := 220) (by decide +kernel) rfl)
theorem lt_X6_18 : Cond.fieldLink RX6 18 RX6 (TX6 2).2.1 (TX6 2).2.2.1 ∈ TB := tb2 (i := 220) (by decide +kernel) rfl
theorem lk_X6_21 : LK RX6 21 RX6 TX6 3 := Or.inl (tb2 (i := 222) (by decide +kernel) rfl)
theorem lt_X6_21 : Cond.fieldLink RX6 21 RX6 (TX6 3).2.1 (TX6 3).2.2.1 ∈ TB := tb2 (i := 222) (by decide +kernel) rfl
theorem lk_X6_25 : LK RX6 25 RX6 TX6 4 := Or.inl (tb2 (i := 224) (by decide +kernel) rfl)
theorem lt_X6_25 : Cond.fieldLink RX6 25 RX6 (TX6 4).2.1 (TX6 4).2.2.1 ∈ TB := tb2 (i := 224) (by decide +kernel) rfl
theorem lk_X6_28 : LK RX6 28 RX6 TX6 5 := Or.inl (tb2 (i := 225) (by decide +kernel) rfl)
theorem lk_X7_9 : LK RX7 9 RX7 TX7 0 := Or.inl (tb1 (i := 36) (by decide +kernel) rfl)
theorem lt_X7_9 : Cond.fieldLink RX7 9 RX7 (TX7 0).2.1 (TX7 0).2.2.1 ∈ TB := tb1 (i := 36) (by decide +kernel) rfl
theorem lk_X7_15 : LK RX7 15 RX7 TX7 1 := Or.inl (tb1 (i := 37) (by decide +kernel) rfl)
theorem lk_X8_9 : LK RX8 9 RX8 TX8 0 := Or.inl (tb1 (i := 110) (by decide +kernel) rfl)
theorem lt_X8_9 : Cond.fieldLink RX8 9 RX8 (TX8 0).2.1 (TX8 0).2.2.1 ∈ TB := tb1 (i := 110) (by decide +kernel) rfl
theorem lk_X8_15 : LK RX8 15 RX8 TX8 1 := Or.inl (tb1 (i := 112) (by decide +kernel) rfl)
theorem lt_X8_15 : Cond.fieldLink RX8 15 RX8 (TX8 1).2.1 (TX8 1).2.2.1 ∈ TB := tb1 (i := 112) (by decide +kernel) rfl
theorem lk_X8_18 : LK RX8 18 RX8 TX8 2 := Or.inl (tb1 (i := 114) (by decide +kernel) rfl)
theorem lt_X8_18 : Cond.fieldLink RX8 18 RX8 (TX8 2).2.1 (TX8 2).2.2.1 ∈ TB := tb1 (i := 114) (by decide +kernel) rfl
theorem lk_X8_21 : LK RX8 21 RX8 TX8 3 := Or.inl (tb1 (i := 116) (by decide +kernel) rfl)
theorem lt_X8_21 : Cond.fieldLink RX8 21 RX8 (TX8 3).2.1 (TX8 3).2.2.1 ∈ TB := tb1 (i := 116) (by decide +kernel) rfl
theorem lk_X8_48 : LK RX8 48 RX8 TX8 4 := Or.inl (tb1 (i := 117) (by decide +kernel) rfl)
theorem lk_X8_52 : LK RX8 52 RX7 TX7 1 := Or.inr ⟨"StruckCounts", nw1 (i := 39) (by decide +kernel) rfl⟩
theorem lk_X9_9 : LK RX9 9 RX9 TX9 0 := Or.inl (tb2 (i := 169) (by decide +kernel) rfl)
theorem lt_X9_9 : Cond.fieldLink RX9 9 RX9 (TX9 0).2.1 (TX9 0).2.2.1 ∈ TB := tb2 (i := 169) (by decide +kernel) rfl
theorem lk_X9_15 : LK RX9 15 RX9 TX9 1 := Or.inl (tb2 (i := 170) (by decide +kernel) rfl)
theorem lt_X9_15 : Cond.fieldLink RX9 15 RX9 (TX9 1).2.1 (TX9 1).2.2.1 ∈ TB := tb2 (i := 170) (by decide +kernel) rfl
theorem lk_X9_18 : LK RX9 18 RX9 TX9 2 := Or.inl (tb2 (i := 171) (by decide +kernel) rfl)
theorem lt_X9_18 : Cond.fieldLink RX9 18 RX9 (TX9 2).2.1 (TX9 2).2.2.1 ∈ TB := tb2 (i := 171) (by decide +kernel) rfl
theorem lk_X9_21 : LK RX9 21 RX9 TX9 3 := Or.inl (tb2 (i := 172) (by decide +kernel) rfl)
theorem lt_X9_21 : Cond.fieldLink RX9 21 RX9 (TX9 3).2.1 (TX9 3).2.2.1 ∈ TB := tb2 (i := 172) (by decide +kernel) rfl
theorem lk_X9_36 : LK RX9 36 RX9 TX9 4 := Or.inl (tb2 (i := 173) (by decide +kernel) rfl)
theorem lk_X10_9 : LK RX10 9 RX10 TX10 0 := Or.inl (tb1 (i := 171) (by decide +kernel) rfl)
theorem lt_X10_9 : Cond.fieldLink RX10 9 RX10 (TX10 0).2.1 (TX10 0).2.2.1 ∈ TB := tb1 (i := 171) (by decide +kernel) rfl
theorem lk_X12_7 : LK RX12 7 RX12 TX12 0 := Or.inl (tb6 (i := 224) (by decide +kernel) rfl)
theorem lt_X12_7 : Cond.fieldLink RX12 7 RX12 (TX12 0).2.1 (TX12 0).2.2.1 ∈ TB := tb6 (i := 224) (by decide +kernel) rfl
theorem lk_X12_13 : LK RX12 13 RX12 TX12 1 := Or.inl (tb6 (i := 225) (by decide +kernel) rfl)
theorem lt_X12_13 : Cond.fieldLink RX12 13 RX12 (TX12 1).2.1 (TX12 1).2.2.1 ∈ TB := tb6 (i := 225) (by decide +kernel) rfl
theorem lk_X12_16 : LK RX12 16 RX12 TX12 2 := Or.inl (tb6 (i := 226) (by decide +kernel) rfl)
theorem lt_X12_16 : Cond.fieldLink RX12 16 RX12 (TX12 2).2.1 (TX12 2).2.2.1 ∈ TB := tb6 (i := 226) (by decide +kernel) rfl
theorem lk_X12_20 : LK RX12 20 RX12 TX12 3 := Or.inl (tb6 (i := 227) (by decide +kernel) rfl)
theorem lt_X12_20 : Cond.fieldLink RX12 20 RX12 (TX12 3).2.1 (TX12 3).2.2.1 ∈ TB := tb6 (i := 227) (by decide +kernel) rfl
theorem lk_X12_23 : LK RX12 23 RX12 TX12 4 := Or.inl (tb6 (i := 228) (by decide +kernel) rfl)
theorem lt_X12_23 : Cond.fieldLink RX12 23 RX12 (TX12 4).2.1 (TX12 4).2.2.1 ∈ TB := tb6 (i := 228) (by decide +kernel) rfl
theorem lk_X12_26 : LK RX12 26 RX12 TX12 5 := Or.inl (tb6 (i := 229) (by decide +kernel) rfl)
theorem lt_X12_26 : Cond.fieldLink RX12 26 RX12 (TX12 5).2.1 (TX12 5).2.2.1 ∈ TB := tb6 (i := 229) (by decide +kernel) rfl
theorem lk_X12_29 : LK RX12 29 RX12 TX12 6 := Or.inl (tb6 (i := 230) (by decide +kernel) rfl)
theorem lt_X12_29 : Cond.fieldLink RX12 29 RX12 (TX12 6).2.1 (TX12 6).2.2.1 ∈ TB := tb6 (i := 230) (by decide +kernel) rfl
theorem lk_X12_32 : LK RX12 32 RX12 TX12 7 := Or.inl (tb6 (i := 231) (by decide +kernel) rfl)
theorem lt_X12_32 : Cond.fieldLink RX12 32 RX12 (TX12 7).2.1 (TX12 7).2.2.1 ∈ TB := tb6 (i := 231) (by decide +kernel) rfl
theorem lk_X12_36 : LK RX12 36 RX12 TX12 9 := Or.inl (tb6 (i := 233) (by decide +kernel) rfl)
theorem lt_X12_36 : Cond.fieldLink RX12 36 RX12 (TX12 9).2.1 (TX12 9).2.2.1 ∈ TB := tb6 (i := 233) (by decide +kernel) rfl
theorem lk_X12_39 : LK RX12 39 RX12 TX12 20 := Or.inl (tb7 (i := 4) (by decide +kernel) rfl)
theorem lk_X12_43 : LK RX12 43 RX12 TX12 23 := Or.inl (tb7 (i := 7) (by decide +kernel) rfl)
theorem lt_X12_43 : Cond.fieldLink RX12 43 RX12 (TX12 23).2.1 (TX12 23).2.2.1 ∈ TB := tb7 (i := 7) (by decide +kernel) rfl
theorem lk_X12_46 : LK RX12 46 RX12 TX12 24 := Or.inl (tb7 (i := 8) (by decide +kernel) rfl)
theorem lt_X12_46 : Cond.fieldLink RX12 46 RX12 (TX12 24).2.1 (TX12 24).2.2.1 ∈ TB := tb7 (i := 8) (by decide +kernel) rfl
theorem lk_X12_49 : LK RX12 49 RX12 TX12 25 := Or.inl (tb7 (i := 9) (by decide +kernel) rfl)
theorem lt_X12_49 : Cond.fieldLink RX12 49 RX12 (TX12 25).2.1 (TX12 25).2.2.1 ∈ TB := tb7 (i := 9) (by decide +kernel) rfl
theorem lk_X12_52 : LK RX12 52 RX12 TX12 26 := Or.inl (tb7 (i := 10) (by decide +kernel) rfl)
theorem lt_X12_52 : Cond.fieldLink RX12 52 RX12 (TX12 26).2.1 (TX12 26).2.2.1 ∈ TB := tb7 (i := 10) (by decide +kernel) rfl
theorem lk_X12_55 : LK RX12 55 RX12 TX12 27 := Or.inl (tb7 (i := 11) (by decide +kernel) rfl)
theorem lt_X12_55 : Cond.fieldLink RX12 55 RX12 (TX12 27).2.1 (TX12 27).2.2.1 ∈ TB := tb7 (i := 11) (by decide +kernel) rfl
theorem lk_X12_58 : LK RX12 58 RX12 TX12 28 := Or.inl (tb7 (i := 12) (by decide +kernel) rfl)
theorem lt_X12_58 : Cond.fieldLink RX12 58 RX12 (TX12 28).2.1 (TX12 28).2.2.1 ∈ TB := tb7 (i := 12) (by decide +kernel) rfl
theorem lk_X12_61 : LK RX12 61 RX12 TX12 29 := Or.inl (tb7 (i := 13) (by decide +kernel) rfl)
theorem lt_X12_61 : Cond.fieldLink RX12 61 RX12 (TX12 29).2.1 (TX12 29).2.2.1 ∈ TB := tb7 (i := 13) (by decide +kernel) rfl
theorem lk_X12_64 : LK RX12 64 RX12 TX12 30 := Or.inl (tb7 (i := 14) (by decide +kernel) rfl)
theorem lt_X12_64 : Cond.fieldLink RX12 64 RX12 (TX12 30).2.1 (TX12 30).2.2.1 ∈ TB := tb7 (i := 14) (by decide +kernel) rfl
theorem lk_X12_67 : LK RX12 67 RX12 TX12 33 := Or.inl (tb7 (i := 17) (by decide +kernel) rfl)
theorem lt_X12_67 : Cond.fieldLink RX12 67 RX12 (TX12 33).2.1 (TX12 33).2.2.1 ∈ TB := tb7 (i := 17) (by decide +kernel) rfl
theorem lk_X12_70 : LK RX12 70 RX12 TX12 34 := Or.inl (tb7 (i := 18) (by decide +kernel) rfl)
theorem lt_X12_70 : Cond.fieldLink RX12 70 RX12 (TX12 34).2.1 (TX12 34).2.2.1 ∈ TB := tb7 (i := 18) (by decide +kernel) rfl
theorem lk_X12_73 : LK RX12 73 RX12 TX12 35 := Or.inl (tb7 (i := 19) (by decide +kernel) rfl)
theorem lt_X12_73 : Cond.fieldLink RX12 73 RX12 (TX12 35).2.1 (TX12 35).2.2.1 ∈ TB := tb7 (i := 19) (by decide +kernel) rfl
theorem lk_X12_76 : LK RX12 76 RX12 TX12 38 := Or.inl (tb7 (i := 22) (by decide +kernel) rfl)
theorem lt_X12_76 : Cond.fieldLink RX12 76 RX12 (TX12 38).2.1 (TX12 38).2.2.1 ∈ TB := tb7 (i := 22) (by decide +kernel) rfl
theorem lk_X12_82 : LK RX12 82 RX12 TX12 10 := Or.inl (tb6 (i := 234) (by decide +kernel) rfl)
theorem lk_X12_89 : LK RX12 89 RX12 TX12 11 := Or.inl (tb6 (i := 235) (by decide +kernel) rfl)
theorem lk_X12_92 : LK RX12 92 RX12 TX12 12 := Or.inl (tb6 (i := 236) (by decide +kernel) rfl)
theorem lk_X12_99 : LK RX12 99 RX12 TX12 13 := Or.inl (tb6 (i := 237) (by decide +kernel) rfl)
theorem lk_X12_102 : LK RX12 102 RX12 TX12 15 := Or.inl (tb6 (i := 239) (by decide +kernel) rfl)
theorem lk_X12_105 : LK RX12 105 RX12 TX12 21 := Or.inl (tb7 (i := 5) (by decide +kernel) rfl)
theorem lk_X12_109 : LK RX12 109 RX12 TX12 14 := Or.inl (tb6 (i := 238) (by decide +kernel) rfl)
theorem lk_X12_126 : LK RX12 126 RX12 TX12 17 := Or.inl (tb7 (i := 1) (by decide +kernel) rfl)
theorem lk_X12_159 : LK RX12 159 RX12 TX12 18 := Or.inl (tb7 (i := 2) (by decide +kernel) rfl)
theorem lk_X12_186 : LK RX12 186 RX12 TX12 16 := Or.inl (tb7 (i := 0) (by decide +kernel) rfl)
theorem lk_X12_243 : LK RX12 243 RX12 TX12 22 := Or.inl (tb7 (i := 6) (by decide +kernel) rfl)
theorem lk_X12_268 : LK RX12 268 RX12 TX12 19 := Or.inl (tb7 (i := 3) (by decide +kernel) rfl)
theorem lk_X12_287 : LK RX12 287 RX12 TX12 8 := Or.inl (tb6 (i := 232) (by decide +kernel) rfl)
theorem lk_X12_290 : LK RX12 290 RX12 TX12 39 := Or.inl (tb7 (i := 23) (by decide +kernel) rfl)
theorem lk_X12_419 : LK RX12 419 RX12 TX12 31 := Or.inl (tb7 (i := 15) (by decide +kernel) rfl)
theorem lk_X12_422 : LK RX12 422 RX12 TX12 32 := Or.inl (tb7 (i := 16) (by decide +kernel) rfl)
theorem lk_X12_471 : LK RX12 471 RX12 TX12 36 := Or.inl (tb7 (i := 20) (by decide +kernel) rfl)
theorem lk_X12_474 : LK RX12 474 RX12 TX12 37 := Or.inl (tb7 (i := 21) (by decide +kernel) rfl)
theorem lk_X12_502 : LK RX12 502 RX12 TX12 40 := Or.inl (tb7 (i := 24) (by decide +kernel) rfl)
theorem lk_X12_505 : LK RX12 505 RX12 TX12 41 := Or.inl (tb7 (i := 25) (by decide +kernel) rfl)
theorem lm_X11_9 : LM RX11 9 mi_X7_init := Or.inr ⟨"StruckCounts", nw1 (i := 32) (by decide +kernel) rfl⟩
theorem lm_X11_18 : LM RX11 18 mi_X8_init := Or.inr ⟨"StruckCounts", nw1 (i := 48) (by decide +kernel) rfl⟩
theorem lm_X11_25 : LM RX11 25 mi_X4_init := Or.inr ⟨"StruckCounts", nw1 (i := 132) (by decide +kernel) rfl⟩
theorem lm_X11_32 : LM RX11 32 mi_X1_init := Or.inr ⟨"StruckCounts", nw1 (i := 161) (by decide +kernel) rfl⟩
theorem lm_X11_42 : LM RX11 42 mi_X5_init := Or.inr ⟨"StruckCounts", nw2 (i := 31) (by decide +kernel) rfl⟩
theorem lm_X11_52 : LM RX11 52 mi_X2_init := Or.inr ⟨"StruckCounts", nw2 (i := 95) (by decide +kernel) rfl⟩
theorem lm_X11_61 : LM RX11 61 mi_X0_init := Or.inr ⟨"StruckCounts", nw2 (i := 133) (by decide +kernel) rfl⟩
theorem lm_X11_68 : LM RX11 68 mi_X10_init := Or.inr ⟨"StruckCounts", nw2 (i := 158) (by decide +kernel) rfl⟩
theorem lm_X11_81 : LM RX11 81 mi_X9_init := Or.inr ⟨"StruckCounts", nw2 (i := 161) (by decide +kernel) rfl⟩
theorem lm_X11_88 : LM RX11 88 mi_X3_init := Or.inr ⟨"StruckCounts", nw2 (i := 188) (by decide +kernel) rfl⟩
theorem lm_X11_95 : LM RX11 95 mi_X6_init := Or.inr ⟨"StruckCounts", nw2 (i := 212) (by decide +kernel) rfl⟩
theorem lm_X11_104 : LM RX11 104 mi_X1_clear := Or.inr ⟨"StruckCounts", nw3 (i := 0) (by decide +kernel) rfl⟩
theorem lm_X11_107 : LM RX11 107 mi_X1_finish := Or.inr ⟨"StruckCounts", nw3 (i := 12) (by decide +kernel) rfl⟩
theorem lm_X11_111 : LM RX11 111 mi_X7_take := Or.inr ⟨"StruckCounts", nw3 (i := 158) (by decide +kernel) rfl⟩
theorem lm_X11_119 : LM RX11 119 mi_X7_cut := Or.inr ⟨"StruckCounts", nw3 (i := 167) (by decide +kernel) rfl⟩
theorem lm_X11_122 : LM RX11 122 mi_X8_split := Or.inr ⟨"StruckCounts", nw3 (i := 175) (by decide +kernel) rfl⟩
theorem lm_X11_126 : LM RX11 126 mi_X2_readSuit := Or.inr ⟨"StruckCounts", nw4 (i := 24) (by decide +kernel) rfl⟩
theorem lm_X11_130 : LM RX11 130 mi_X0_forget := Or.inr ⟨"StruckCounts", nw4 (i := 172) (by decide +kernel) rfl⟩
theorem lm_X11_146 : LM RX11 146 mi_X11_isFact := Or.inl (tb4 (i := 184) (by decide +kernel) rfl)
theorem lm_X11_152 : LM RX11 152 mi_X11_at := Or.inl (tb4 (i := 188) (by decide +kernel) rfl)
theorem lm_X11_156 : LM RX11 156 mi_X5_howIs := Or.inr ⟨"StruckCounts", nw4 (i := 189) (by decide +kernel) rfl⟩
theorem lm_X11_160 : LM RX11 160 mi_X5_known := Or.inr ⟨"StruckCounts", nw4 (i := 194) (by decide +kernel) rfl⟩
theorem lm_X11_164 : LM RX11 164 mi_X11_has := Or.inl (tb4 (i := 198) (by decide +kernel) rfl)
theorem lm_X11_171 : LM RX11 171 mi_X5_sayers := Or.inr ⟨"StruckCounts", nw4 (i := 199) (by decide +kernel) rfl⟩
theorem lm_X11_174 : LM RX11 174 mi_X11_isCount := Or.inl (tb4 (i := 207) (by decide +kernel) rfl)
theorem lm_X11_186 : LM RX11 186 mi_X11_age := Or.inl (tb4 (i := 211) (by decide +kernel) rfl)
theorem lm_X11_192 : LM RX11 192 mi_X11_kind := Or.inl (tb4 (i := 231) (by decide +kernel) rfl)
theorem lm_X11_195 : LM RX11 195 mi_X1_pleasOf := Or.inr ⟨"StruckCounts", nw4 (i := 235) (by decide +kernel) rfl⟩
theorem lm_X11_204 : LM RX11 204 mi_X11_remember := Or.inl (tb4 (i := 239) (by decide +kernel) rfl)
theorem lm_X11_207 : LM RX11 207 mi_X11_failing := Or.inl (tb5 (i := 8) (by decide +kernel) rfl)
theorem lm_X11_213 : LM RX11 213 mi_X11_needSlot := Or.inl (tb5 (i := 41) (by decide +kernel) rfl)
theorem lm_X11_217 : LM RX11 217 mi_X11_shown := Or.inl (tb5 (i := 42) (by decide +kernel) rfl)
theorem lm_X11_221 : LM RX11 221 mi_X1_pleaSlot := Or.inr ⟨"StruckCounts", nw5 (i := 63) (by decide +kernel) rfl⟩
theorem lm_X11_228 : LM RX11 228 mi_X11_leaves := Or.inl (tb5 (i := 71) (by decide +kernel) rfl)
theorem lm_X11_232 : LM RX11 232 mi_X0_note := Or.inr ⟨"StruckCounts", nw5 (i := 75) (by decide +kernel) rfl⟩
theorem lm_X11_236 : LM RX11 236 mi_X5_become := Or.inr ⟨"StruckCounts", nw5 (i := 87) (by decide +kernel) rfl⟩
theorem lm_X11_240 : LM RX11 240 mi_X5_answered := Or.inr ⟨"StruckCounts", nw5 (i := 91) (by decide +kernel) rfl⟩
theorem lm_X11_246 : LM RX11 246 mi_X11_bySilence := Or.inl (tb5 (i := 104) (by decide +kernel) rfl)
theorem lm_X11_249 : LM RX11 249 mi_X11_unknown := Or.inl (tb5 (i := 116) (by decide +kernel) rfl)
theorem lm_X11_252 : LM RX11 252 mi_J6_bitCount_0f7a4 := Or.inl (tb4 (i := 223) (by decide +kernel) rfl)
theorem lm_X11_260 : LM RX11 260 mi_X5_tell := Or.inr ⟨"StruckCounts", nw5 (i := 124) (by decide +kernel) rfl⟩
theorem lm_X11_267 : LM RX11 267 mi_X5_file := Or.inr ⟨"StruckCounts", nw5 (i := 129) (by decide +kernel) rfl⟩
theorem lm_X11_273 : LM RX11 273 mi_X0_takeBack := Or.inr ⟨"StruckCounts", nw5 (i := 142) (by decide +kernel) rfl⟩
theorem lm_X11_280 : LM RX11 280 mi_X0_store := Or.inr ⟨"StruckCounts", nw5 (i := 150) (by decide +kernel) rfl⟩
theorem lm_X11_284 : LM RX11 284 mi_X0_restore := Or.inr ⟨"StruckCounts", nw5 (i := 158) (by decide +kernel) rfl⟩
theorem lm_X11_290 : LM RX11 290 mi_X10_size := Or.inr ⟨"StruckCounts", nw5 (i := 168) (by decide +kernel) rfl⟩
theorem lm_X11_292 : LM RX11 292 mi_X11_allege := Or.inl (tb5 (i := 12) (by decide +kernel) rfl)
theorem lm_X11_296 : LM RX11 296 mi_X10_agree := Or.inr ⟨"StruckCounts", nw5 (i := 7) (by decide +kernel) rfl⟩
theorem lm_X11_300 : LM RX11 300 mi_X10_isEmpty := Or.inr ⟨"StruckCounts", nw5 (i := 16) (by decide +kernel) rfl⟩
theorem lm_X11_304 : LM RX11 304 mi_X1_wonBy := Or.inr ⟨"StruckCounts", nw5 (i := 177) (by decide +kernel) rfl⟩
theorem lm_X11_308 : LM RX11 308 mi_X10_and := Or.inr ⟨"StruckCounts", nw5 (i := 178) (by decide +kernel) rfl⟩
theorem lm_X11_312 : LM RX11 312 mi_X10_within := Or.inr ⟨"StruckCounts", nw5 (i := 52) (by decide +kernel) rfl⟩
theorem lm_X11_316 : LM RX11 316 mi_X11_findLack := Or.inl (tb5 (i := 183) (by decide +kernel) rfl)
theorem lm_X11_325 : LM RX11 325 mi_X10_holds := Or.inr ⟨"StruckCounts", nw6 (i := 2) (by decide +kernel) rfl⟩
theorem lm_X11_328 : LM RX11 328 mi_X11_turningFacts := Or.inl (tb6 (i := 3) (by decide +kernel) rfl)
theorem lm_X11_332 : LM RX11 332 mi_X10_howIn := Or.inr ⟨"StruckCounts", nw5 (i := 53) (by decide +kernel) rfl⟩
theorem lm_X11_336 : LM RX11 336 mi_X11_growTrial := Or.inl (tb6 (i := 15) (by decide +kernel) rfl)
theorem lm_X11_339 : LM RX11 339 mi_X9_countTrials := Or.inr ⟨"StruckCounts", nw6 (i := 19) (by decide +kernel) rfl⟩
theorem lm_X11_342 : LM RX11 342 mi_X9_value := Or.inr ⟨"StruckCounts", nw6 (i := 34) (by decide +kernel) rfl⟩
theorem lm_X11_345 : LM RX11 345 mi_X9_firstTrial := Or.inr ⟨"StruckCounts", nw6 (i := 38) (by decide +kernel) rfl⟩
theorem lm_X11_348 : LM RX11 348 mi_X1_weigh := Or.inr ⟨"StruckCounts", nw6 (i := 47) (by decide +kernel) rfl⟩
theorem lm_X11_352 : LM RX11 352 mi_X11_inLowestTerms := Or.inl (tb6 (i := 51) (by decide +kernel) rfl)
theorem lm_X11_356 : LM RX11 356 mi_X11_survey := Or.inl (tb6 (i := 58) (by decide +kernel) rfl)
theorem lm_X11_364 : LM RX11 364 mi_X11_awardOf := Or.inl (tb6 (i := 84) (by decide +kernel) rfl)
theorem lm_X11_367 : Cond.methodLink RX11 367 Lib.Math.min.name ∈ TB := tb4 (i := 229) (by decide +kernel) rfl
theorem lm_X11_381 : LM RX11 381 mi_X11_longAt := Or.inl (tb6 (i := 94) (by decide +kernel) rfl)
theorem lm_X11_388 : LM RX11 388 mi_X11_seekProofs := Or.inl (tb6 (i := 107) (by decide +kernel) rfl)
theorem lm_X11_392 : LM RX11 392 mi_X9_playOut := Or.inr ⟨"StruckCounts", nw6 (i := 123) (by decide +kernel) rfl⟩
theorem lm_X11_395 : LM RX11 395 mi_X9_winningTurn := Or.inr ⟨"StruckCounts", nw6 (i := 144) (by decide +kernel) rfl⟩
theorem lm_X11_399 : LM RX11 399 mi_X2_readQuestion := Or.inr ⟨"StruckCounts", nw6 (i := 160) (by decide +kernel) rfl⟩
theorem lm_X11_406 : LM RX11 406 mi_X4_tabulate := Or.inr ⟨"StruckCounts", nw6 (i := 164) (by decide +kernel) rfl⟩
theorem lm_X11_413 : LM RX11 413 mi_X11_standing := Or.inl (tb6 (i := 62) (by decide +kernel) rfl)
theorem lm_X11_422 : LM RX11 422 mi_X10_copy := Or.inr ⟨"StruckCounts", nw5 (i := 3) (by decide +kernel) rfl⟩
theorem lm_X11_425 : LM RX11 425 mi_X5_firstSayer := Or.inr ⟨"StruckCounts", nw5 (i := 108) (by decide +kernel) rfl⟩
theorem lm_X11_428 : LM RX11 428 mi_X4_glance := Or.inr ⟨"StruckCounts", nw5 (i := 46) (by decide +kernel) rfl⟩
theorem lm_X11_432 : LM RX11 432 mi_X1_table := Or.inr ⟨"StruckCounts", nw5 (i := 51) (by decide +kernel) rfl⟩
theorem lm_X11_435 : LM RX11 435 mi_X11_workOutBacks := Or.inl (tb4 (i := 215) (by decide +kernel) rfl)
theorem lm_X11_438 : LM RX11 438 mi_X11_leastBack := Or.inl (tb4 (i := 219) (by decide +kernel) rfl)
theorem lm_X11_441 : LM RX11 441 mi_X11_put := Or.inl (tb4 (i := 230) (by decide +kernel) rfl)
theorem lm_X11_445 : LM RX11 445 mi_X1_needsSure := Or.inr ⟨"StruckCounts", nw5 (i := 17) (by decide +kernel) rfl⟩
theorem lm_X11_449 : LM RX11 449 mi_X1_needsMet := Or.inr ⟨"StruckCounts", nw5 (i := 25) (by decide +kernel) rfl⟩
theorem lm_X11_452 : LM RX11 452 mi_X1_barred := Or.inr ⟨"StruckCounts", nw5 (i := 33) (by decide +kernel) rfl⟩
theorem lm_X11_455 : LM RX11 455 mi_X1_flawsAt := Or.inr ⟨"StruckCounts", nw5 (i := 187) (by decide +kernel) rfl⟩
theorem lm_X11_458 : LM RX11 458 mi_X9_setLeaf := Or.inr ⟨"StruckCounts", nw5 (i := 195) (by decide +kernel) rfl⟩
theorem lm_X11_461 : LM RX11 461 mi_X9_grow := Or.inr ⟨"StruckCounts", nw5 (i := 199) (by decide +kernel) rfl⟩
theorem lm_X11_467 : LM RX11 467 mi_X3_start := Or.inr ⟨"StruckCounts", nw5 (i := 211) (by decide +kernel) rfl⟩
theorem lm_X11_470 : LM RX11 470 mi_X3_more := Or.inr ⟨"StruckCounts", nw5 (i := 215) (by decide +kernel) rfl⟩
theorem lm_X11_473 : LM RX11 473 mi_X9_markOf := Or.inr ⟨"StruckCounts", nw5 (i := 224) (by decide +kernel) rfl⟩
theorem lm_X11_476 : LM RX11 476 mi_X1_sound := Or.inr ⟨"StruckCounts", nw5 (i := 228) (by decide +kernel) rfl⟩
theorem lm_X11_479 : LM RX11 479 mi_X9_isProof := Or.inr ⟨"StruckCounts", nw6 (i := 111) (by decide +kernel) rfl⟩
theorem lm_X11_483 : LM RX11 483 mi_X6_clear := Or.inr ⟨"StruckCounts", nw6 (i := 66) (by decide +kernel) rfl⟩
theorem lm_X11_484 : LM RX11 484 mi_X11_wonIn := Or.inl (tb6 (i := 71) (by decide +kernel) rfl)
theorem lm_X11_489 : LM RX11 489 mi_X6_enter := Or.inr ⟨"StruckCounts", nw6 (i := 75) (by decide +kernel) rfl⟩
theorem lm_X11_495 : Cond.methodLink RX11 495 Lib.Math.max.name ∈ TB := tb6 (i := 88) (by decide +kernel) rfl
theorem lm_X0_20 : LM RX0 20 mi_X5_init := Or.inr ⟨"StruckCounts", nw2 (i := 139) (by decide +kernel) rfl⟩
theorem lm_X0_31 : LM RX0 31 mi_X5_copy := Or.inr ⟨"StruckCounts", nw5 (i := 79) (by decide +kernel) rfl⟩
theorem lm_X0_35 : Cond.methodLink RX0 35 Lib.Math.min.name ∈ TB := tb5 (i := 86) (by decide +kernel) rfl
theorem lm_X0_41 : LM RX0 41 mi_X11_has := Or.inr ⟨"StruckCounts", nw5 (i := 162) (by decide +kernel) rfl⟩
theorem lm_X0_45 : LM RX0 45 mi_X0_note := Or.inl (tb5 (i := 163) (by decide +kernel) rfl)
theorem lm_X1_44 : LM RX1 44 mi_X10_init := Or.inr ⟨"StruckCounts", nw1 (i := 167) (by decide +kernel) rfl⟩
theorem lm_X1_78 : LM RX1 78 mi_X11_wipe := Or.inr ⟨"StruckCounts", nw3 (i := 4) (by decide +kernel) rfl⟩
theorem lm_X1_82 : LM RX1 82 mi_X10_fill := Or.inr ⟨"StruckCounts", nw3 (i := 7) (by decide +kernel) rfl⟩
theorem lm_X1_85 : LM RX1 85 mi_X10_keepFirst := Or.inr ⟨"StruckCounts", nw3 (i := 16) (by decide +kernel) rfl⟩
theorem lm_X1_89 : LM RX1 89 mi_X11_at := Or.inr ⟨"StruckCounts", nw3 (i := 32) (by decide +kernel) rfl⟩
theorem lm_X1_93 : LM RX1 93 mi_X1_table := Or.inl (tb3 (i := 33) (by decide +kernel) rfl)
theorem lm_X1_97 : LM RX1 97 mi_X4_tabulate := Or.inr ⟨"StruckCounts", nw3 (i := 37) (by decide +kernel) rfl⟩
theorem lm_X1_103 : LM RX1 103 mi_X1_wonBy := Or.inl (tb3 (i := 74) (by decide +kernel) rfl)
theorem lm_X1_106 : LM RX1 106 mi_X1_finishWon := Or.inl (tb3 (i := 78) (by decide +kernel) rfl)
theorem lm_X1_110 : LM RX1 110 mi_X1_weightOf := Or.inl (tb3 (i := 93) (by decide +kernel) rfl)
theorem lm_X1_114 : LM RX1 114 mi_X11_put := Or.inr ⟨"StruckCounts", nw3 (i := 98) (by decide +kernel) rfl⟩
theorem lm_X1_118 : LM RX1 118 mi_X11_needSlot := Or.inr ⟨"StruckCounts", nw3 (i := 82) (by decide +kernel) rfl⟩
theorem lm_X1_122 : LM RX1 122 mi_X10_and := Or.inr ⟨"StruckCounts", nw3 (i := 85) (by decide +kernel) rfl⟩
theorem lm_X1_126 : LM RX1 126 mi_X10_minus := Or.inr ⟨"StruckCounts", nw3 (i := 89) (by decide +kernel) rfl⟩
theorem lm_X1_129 : LM RX1 129 mi_X11_has := Or.inr ⟨"StruckCounts", nw3 (i := 97) (by decide +kernel) rfl⟩
theorem lm_X1_133 : Cond.methodLink RX1 133 Lib.Math.min.name ∈ TB := tb4 (i := 167) (by decide +kernel) rfl
theorem lm_X1_138 : LM RX1 138 mi_X10_within := Or.inr ⟨"StruckCounts", nw5 (i := 21) (by decide +kernel) rfl⟩
theorem lm_X1_142 : LM RX1 142 mi_X10_meets := Or.inr ⟨"StruckCounts", nw5 (i := 29) (by decide +kernel) rfl⟩
theorem lm_X1_145 : LM RX1 145 mi_X10_holds := Or.inr ⟨"StruckCounts", nw5 (i := 191) (by decide +kernel) rfl⟩
theorem lm_X2_11 : LM RX2 11 mi_X10_init := Or.inr ⟨"StruckCounts", nw2 (i := 100) (by decide +kernel) rfl⟩
theorem lm_X2_34 : LM RX2 34 mi_X2_begin := Or.inl (tb4 (i := 28) (by decide +kernel) rfl)
theorem lm_X2_38 : LM RX2 38 mi_X1_clear := Or.inr ⟨"StruckCounts", nw4 (i := 32) (by decide +kernel) rfl⟩
theorem lm_X2_43 : LM RX2 43 mi_X5_clear := Or.inr ⟨"StruckCounts", nw4 (i := 33) (by decide +kernel) rfl⟩
theorem lm_X2_46 : LM RX2 46 mi_X2_nextKind := Or.inl (tb4 (i := 37) (by decide +kernel) rfl)
theorem lm_X2_50 : LM RX2 50 mi_X2_readLine := Or.inl (tb4 (i := 41) (by decide +kernel) rfl)
theorem lm_X2_58 : LM RX2 58 mi_X2_readEither := Or.inl (tb4 (i := 82) (by decide +kernel) rfl)
theorem lm_X2_62 : LM RX2 62 mi_X2_expect := Or.inl (tb4 (i := 74) (by decide +kernel) rfl)
theorem lm_X2_71 : LM RX2 71 mi_X2_readFact := Or.inl (tb4 (i := 45) (by decide +kernel) rfl)
theorem lm_X2_74 : LM RX2 74 mi_X2_readNever := Or.inl (tb4 (i := 78) (by decide +kernel) rfl)
theorem lm_X2_77 : LM RX2 77 mi_X2_readCount := Or.inl (tb4 (i := 126) (by decide +kernel) rfl)
theorem lm_X2_80 : LM RX2 80 mi_X2_readPlea := Or.inl (tb4 (i := 140) (by decide +kernel) rfl)
theorem lm_X2_83 : LM RX2 83 mi_X2_readSays := Or.inl (tb4 (i := 148) (by decide +kernel) rfl)
theorem lm_X2_86 : LM RX2 86 mi_X2_readSame := Or.inl (tb4 (i := 159) (by decide +kernel) rfl)
theorem lm_X2_89 : LM RX2 89 mi_X2_readLimit := Or.inl (tb4 (i := 168) (by decide +kernel) rfl)
theorem lm_X2_92 : LM RX2 92 mi_X2_fail := Or.inl (tb4 (i := 49) (by decide +kernel) rfl)
theorem lm_X2_98 : LM RX2 98 mi_X2_newName := Or.inl (tb4 (i := 53) (by decide +kernel) rfl)
theorem lm_X2_104 : LM RX2 104 mi_X2_number := Or.inl (tb4 (i := 69) (by decide +kernel) rfl)
theorem lm_X2_112 : LM RX2 112 mi_X11_put := Or.inr ⟨"StruckCounts", nw4 (i := 73) (by decide +kernel) rfl⟩
theorem lm_X2_128 : LM RX2 128 mi_X4_tabulate := Or.inr ⟨"StruckCounts", nw4 (i := 110) (by decide +kernel) rfl⟩
theorem lm_X2_137 : LM RX2 137 mi_X10_minus := Or.inr ⟨"StruckCounts", nw4 (i := 111) (by decide +kernel) rfl⟩
theorem lm_X2_141 : LM RX2 141 mi_X10_isEmpty := Or.inr ⟨"StruckCounts", nw4 (i := 112) (by decide +kernel) rfl⟩
theorem lm_X2_147 : LM RX2 147 mi_X11_needSlot := Or.inr ⟨"StruckCounts", nw4 (i := 130) (by decide +kernel) rfl⟩
theorem lm_X2_151 : LM RX2 151 mi_X2_readInto := Or.inl (tb4 (i := 131) (by decide +kernel) rfl)
theorem lm_X2_160 : LM RX2 160 mi_X5_file := Or.inr ⟨"StruckCounts", nw4 (i := 135) (by decide +kernel) rfl⟩
theorem lm_X2_167 : LM RX2 167 mi_X2_knownCount := Or.inl (tb4 (i := 144) (by decide +kernel) rfl)
theorem lm_X2_173 : LM RX2 173 mi_X2_knownFact := Or.inl (tb4 (i := 106) (by decide +kernel) rfl)
theorem lm_X2_179 : LM RX2 179 mi_X11_at := Or.inr ⟨"StruckCounts", nw4 (i := 152) (by decide +kernel) rfl⟩
theorem lm_X2_183 : LM RX2 183 mi_X11_has := Or.inr ⟨"StruckCounts", nw4 (i := 153) (by decide +kernel) rfl⟩
theorem lm_X2_186 : LM RX2 186 mi_X5_tell := Or.inr ⟨"StruckCounts", nw4 (i := 154) (by decide +kernel) rfl⟩
theorem lm_X2_193 : LM RX2 193 mi_X1_unite := Or.inr ⟨"StruckCounts", nw4 (i := 163) (by decide +kernel) rfl⟩
theorem lm_X2_206 : LM RX2 206 mi_X2_readEvery := Or.inl (tb4 (i := 86) (by decide +kernel) rfl)
theorem lm_X2_209 : LM RX2 209 mi_X1_emit := Or.inr ⟨"StruckCounts", nw4 (i := 98) (by decide +kernel) rfl⟩
theorem lm_X2_213 : LM RX2 213 mi_X2_readOne := Or.inl (tb4 (i := 90) (by decide +kernel) rfl)
theorem lm_X2_216 : LM RX2 216 mi_X2_readSeveral := Or.inl (tb4 (i := 94) (by decide +kernel) rfl)
theorem lm_X2_219 : LM RX2 219 mi_X2_seventhFault := Or.inl (tb4 (i := 102) (by decide +kernel) rfl)
theorem lm_X2_222 : LM RX2 222 mi_X2_nextValue := Or.inl (tb4 (i := 57) (by decide +kernel) rfl)
theorem lm_X2_225 : LM RX2 225 mi_X1_factNamed := Or.inr ⟨"StruckCounts", nw4 (i := 61) (by decide +kernel) rfl⟩
theorem lm_X2_229 : LM RX2 229 mi_X1_countNamed := Or.inr ⟨"StruckCounts", nw4 (i := 65) (by decide +kernel) rfl⟩
theorem lm_X3_28 : LM RX3 28 mi_X3_nextFacts := Or.inl (tb5 (i := 219) (by decide +kernel) rfl)
theorem lm_X3_32 : LM RX3 32 mi_J6_bitCount_0f7a4 := Or.inl (tb5 (i := 223) (by decide +kernel) rfl)
theorem lm_X4_25 : LM RX4 25 mi_X4_run := Or.inl (tb3 (i := 41) (by decide +kernel) rfl)
theorem lm_X4_34 : LM RX4 34 mi_X11_longAt := Or.inr ⟨"StruckCounts", nw3 (i := 68) (by decide +kernel) rfl⟩
theorem lm_X4_38 : LM RX4 38 mi_X11_putLong := Or.inr ⟨"StruckCounts", nw3 (i := 71) (by decide +kernel) rfl⟩
theorem lm_X4_57 : LM RX4 57 mi_X11_at := Or.inr ⟨"StruckCounts", nw5 (i := 50) (by decide +kernel) rfl⟩
theorem lm_X4_67 : LM RX4 67 mi_X4_replace := Or.inl (tb3 (i := 45) (by decide +kernel) rfl)
theorem lm_X4_71 : LM RX4 71 mi_X4_leafYes := Or.inl (tb3 (i := 49) (by decide +kernel) rfl)
theorem lm_X4_75 : LM RX4 75 mi_X4_leafNo := Or.inl (tb3 (i := 56) (by decide +kernel) rfl)
theorem lm_X4_78 : LM RX4 78 mi_X4_top := Or.inl (tb3 (i := 60) (by decide +kernel) rfl)
theorem lm_X4_81 : LM RX4 81 mi_X4_atLeast := Or.inl (tb3 (i := 64) (by decide +kernel) rfl)
theorem lm_X4_85 : LM RX4 85 mi_X11_has := Or.inr ⟨"StruckCounts", nw3 (i := 53) (by decide +kernel) rfl⟩
theorem lm_X4_91 : LM RX4 91 mi_X10_soIn := Or.inr ⟨"StruckCounts", nw3 (i := 55) (by decide +kernel) rfl⟩
theorem lm_X5_59 : LM RX5 59 mi_X11_copyRow := Or.inr ⟨"StruckCounts", nw5 (i := 83) (by decide +kernel) rfl⟩
theorem lm_X5_63 : LM RX5 63 mi_J6_bitCount_0f7a4 := Or.inl (tb5 (i := 95) (by decide +kernel) rfl)
theorem lm_X5_69 : LM RX5 69 mi_X11_has := Or.inr ⟨"StruckCounts", nw4 (i := 193) (by decide +kernel) rfl⟩
theorem lm_X5_73 : LM RX5 73 mi_X11_at := Or.inr ⟨"StruckCounts", nw4 (i := 158) (by decide +kernel) rfl⟩
theorem lm_X5_77 : LM RX5 77 mi_X11_put := Or.inr ⟨"StruckCounts", nw4 (i := 139) (by decide +kernel) rfl⟩
theorem lm_X6_32 : LM RX6 32 mi_X11_wipe := Or.inr ⟨"StruckCounts", nw6 (i := 70) (by decide +kernel) rfl⟩
theorem lm_X6_36 : LM RX6 36 mi_X11_at := Or.inr ⟨"StruckCounts", nw6 (i := 79) (by decide +kernel) rfl⟩
theorem lm_X6_40 : LM RX6 40 mi_X11_put := Or.inr ⟨"StruckCounts", nw6 (i := 80) (by decide +kernel) rfl⟩
theorem lm_X6_44 : LM RX6 44 mi_X11_putLong := Or.inr ⟨"StruckCounts", nw6 (i := 81) (by decide +kernel) rfl⟩
theorem lm_X6_48 : LM RX6 48 mi_X11_longAt := Or.inr ⟨"StruckCounts", nw6 (i := 82) (by decide +kernel) rfl⟩
theorem lm_X7_19 : LM RX7 19 mi_X11_put := Or.inr ⟨"StruckCounts", nw3 (i := 162) (by decide +kernel) rfl⟩
theorem lm_X7_23 : LM RX7 23 mi_X11_at := Or.inr ⟨"StruckCounts", nw3 (i := 183) (by decide +kernel) rfl⟩
theorem lm_X8_24 : LM RX8 24 mi_X8_reservedLetters := Or.inl (tb1 (i := 52) (by decide +kernel) rfl)
theorem lm_X8_28 : LM RX8 28 mi_X11_put := Or.inr ⟨"StruckCounts", nw1 (i := 107) (by decide +kernel) rfl⟩
theorem lm_X8_34 : LM RX8 34 mi_J0_length_8abf5 := Or.inl (tb1 (i := 56) (by decide +kernel) rfl)
theorem lm_X8_40 : LM RX8 40 mi_J0_charAt_5068e := Or.inl (tb1 (i := 66) (by decide +kernel) rfl)
theorem lm_X8_44 : LM RX8 44 mi_X8_withLetter := Or.inl (tb1 (i := 104) (by decide +kernel) rfl)
theorem lm_X8_55 : LM RX8 55 mi_X7_read := Or.inr ⟨"StruckCounts", nw3 (i := 179) (by decide +kernel) rfl⟩
theorem lm_X8_58 : LM RX8 58 mi_X8_cutOne := Or.inl (tb3 (i := 184) (by decide +kernel) rfl)
theorem lm_X8_62 : LM RX8 62 mi_X8_note := Or.inl (tb3 (i := 195) (by decide +kernel) rfl)
theorem lm_X8_66 : LM RX8 66 mi_X8_runEnd := Or.inl (tb3 (i := 188) (by decide +kernel) rfl)
theorem lm_X8_70 : LM RX8 70 mi_X8_noteWord := Or.inl (tb3 (i := 191) (by decide +kernel) rfl)
theorem lm_X8_74 : LM RX8 74 mi_X8_noteNumber := Or.inl (tb3 (i := 200) (by decide +kernel) rfl)
theorem lm_X8_79 : LM RX8 79 mi_J0_indexOf_0f7a4 := Or.inl (tb3 (i := 205) (by decide +kernel) rfl)
theorem lm_X8_82 : LM RX8 82 mi_X11_at := Or.inr ⟨"StruckCounts", nw3 (i := 199) (by decide +kernel) rfl⟩
theorem lm_X9_24 : LM RX9 24 mi_X11_at := Or.inr ⟨"StruckCounts", nw2 (i := 165) (by decide +kernel) rfl⟩
theorem lm_X9_28 : LM RX9 28 mi_X11_put := Or.inr ⟨"StruckCounts", nw2 (i := 168) (by decide +kernel) rfl⟩
theorem lm_X9_32 : LM RX9 32 mi_X9_node := Or.inl (tb5 (i := 203) (by decide +kernel) rfl)
theorem lm_X9_40 : LM RX9 40 mi_X9_markFrom := Or.inl (tb5 (i := 207) (by decide +kernel) rfl)
theorem lm_X9_43 : LM RX9 43 mi_X9_fewestTrials := Or.inl (tb6 (i := 23) (by decide +kernel) rfl)
theorem lm_X9_46 : LM RX9 46 mi_X11_has := Or.inr ⟨"StruckCounts", nw6 (i := 27) (by decide +kernel) rfl⟩
theorem lm_X9_50 : LM RX9 50 mi_X9_trialsBy := Or.inl (tb6 (i := 28) (by decide +kernel) rfl)
theorem lm_X9_53 : Cond.methodLink RX9 53 Lib.Math.min.name ∈ TB := tb6 (i := 33) (by decide +kernel) rfl
theorem lm_X9_58 : Cond.methodLink RX9 58 Lib.Math.max.name ∈ TB := tb6 (i := 32) (by decide +kernel) rfl
theorem lm_X9_61 : LM RX9 61 mi_X9_value := Or.inl (tb6 (i := 42) (by decide +kernel) rfl)
theorem lm_X9_65 : LM RX9 65 mi_J6_bitCount_0f7a4 := Or.inl (tb6 (i := 127) (by decide +kernel) rfl)
theorem lm_X9_71 : LM RX9 71 mi_X9_winner := Or.inl (tb6 (i := 128) (by decide +kernel) rfl)
theorem lm_X9_75 : LM RX9 75 mi_X9_bestTurn := Or.inl (tb6 (i := 132) (by decide +kernel) rfl)
theorem lm_X9_78 : LM RX9 78 mi_X9_leadsTo := Or.inl (tb6 (i := 136) (by decide +kernel) rfl)
theorem lm_X10_20 : LM RX10 20 mi_X11_has := Or.inr ⟨"StruckCounts", nw3 (i := 24) (by decide +kernel) rfl⟩
theorem lm_X10_24 : LM RX10 24 mi_X10_soIn := Or.inl (tb3 (i := 27) (by decide +kernel) rfl)
theorem lm_X10_28 : LM RX10 28 mi_X10_agree := Or.inl (tb3 (i := 20) (by decide +kernel) rfl)
theorem lm_X10_32 : LM RX10 32 mi_X10_size := Or.inl (tb4 (i := 116) (by decide +kernel) rfl)
theorem lm_X10_36 : LM RX10 36 mi_J13_bitCount_95d88 := Or.inl (tb4 (i := 120) (by decide +kernel) rfl)
theorem lm_X10_42 : LM RX10 42 mi_X10_within := Or.inl (tb5 (i := 57) (by decide +kernel) rfl)
theorem lm_X10_46 : LM RX10 46 mi_X10_meets := Or.inl (tb5 (i := 58) (by decide +kernel) rfl)
theorem lm_L_9 : LM RL 9 mi_X11_init := Or.inl (tb1 (i := 24) (by decide +kernel) rfl)
theorem lm_L_12 : LM RL 12 mi_X12_init := Or.inl (tb6 (i := 175) (by decide +kernel) rfl)
theorem lm_L_13 : LM RL 13 mi_X11_sign := Or.inl (tb3 (i := 154) (by decide +kernel) rfl)
theorem lm_L_17 : LM RL 17 mi_X12_sign := Or.inl (tb7 (i := 112) (by decide +kernel) rfl)
theorem lm_L_18 : LM RL 18 mi_X11_end := Or.inl (tb3 (i := 163) (by decide +kernel) rfl)
theorem lm_L_22 : LM RL 22 mi_X12_end := Or.inl (tb7 (i := 116) (by decide +kernel) rfl)
theorem lm_L_23 : LM RL 23 mi_X11_suit := Or.inl (tb3 (i := 171) (by decide +kernel) rfl)
theorem lm_L_27 : LM RL 27 mi_X12_suit := Or.inl (tb7 (i := 123) (by decide +kernel) rfl)
theorem lm_L_28 : LM RL 28 mi_X11_fault := Or.inl (tb4 (i := 176) (by decide +kernel) rfl)
theorem lm_L_31 : LM RL 31 mi_X12_fault := Or.inl (tb8 (i := 48) (by decide +kernel) rfl)
theorem lm_L_32 : LM RL 32 mi_X11_fact := Or.inl (tb4 (i := 180) (by decide +kernel) rfl)
theorem lm_L_36 : LM RL 36 mi_X12_fact := Or.inl (tb8 (i := 52) (by decide +kernel) rfl)
theorem lm_L_37 : LM RL 37 mi_X11_of := Or.inl (tb4 (i := 203) (by decide +kernel) rfl)
theorem lm_L_40 : LM RL 40 mi_X12_of := Or.inl (tb8 (i := 68) (by decide +kernel) rfl)
theorem lm_L_41 : LM RL 41 mi_X11_element := Or.inl (tb5 (i := 37) (by decide +kernel) rfl)
theorem lm_L_45 : LM RL 45 mi_X12_element := Or.inl (tb8 (i := 127) (by decide +kernel) rfl)
theorem lm_L_46 : LM RL 46 mi_X11_bar := Or.inl (tb5 (i := 59) (by decide +kernel) rfl)
theorem lm_L_49 : LM RL 49 mi_X12_bar := Or.inl (tb8 (i := 145) (by decide +kernel) rfl)
theorem lm_L_50 : LM RL 50 mi_X11_answer := Or.inl (tb5 (i := 67) (by decide +kernel) rfl)
theorem lm_L_53 : LM RL 53 mi_X12_answer := Or.inl (tb8 (i := 149) (by decide +kernel) rfl)
theorem lm_L_54 : LM RL 54 mi_X11_withdraw := Or.inl (tb5 (i := 96) (by decide +kernel) rfl)
theorem lm_L_57 : LM RL 57 mi_X12_withdraw := Or.inl (tb8 (i := 173) (by decide +kernel) rfl)
theorem lm_L_58 : LM RL 58 mi_X11_close := Or.inl (tb5 (i := 100) (by decide +kernel) rfl)
theorem lm_L_61 : LM RL 61 mi_X12_close := Or.inl (tb8 (i := 177) (by decide +kernel) rfl)
theorem lm_L_62 : LM RL 62 mi_X11_find := Or.inl (tb5 (i := 112) (by decide +kernel) rfl)
theorem lm_L_66 : LM RL 66 mi_X12_find := Or.inl (tb8 (i := 185) (by decide +kernel) rfl)
theorem lm_L_67 : LM RL 67 mi_X11_say := Or.inl (tb5 (i := 120) (by decide +kernel) rfl)
theorem lm_L_70 : LM RL 70 mi_X12_say := Or.inl (tb8 (i := 189) (by decide +kernel) rfl)
theorem lm_L_71 : LM RL 71 mi_X11_add := Or.inl (tb5 (i := 125) (by decide +kernel) rfl)
theorem lm_L_74 : LM RL 74 mi_X12_add := Or.inl (tb8 (i := 193) (by decide +kernel) rfl)
theorem lm_L_75 : LM RL 75 mi_X11_strike := Or.inl (tb5 (i := 130) (by decide +kernel) rfl)
theorem lm_L_78 : LM RL 78 mi_X12_strike := Or.inl (tb8 (i := 197) (by decide +kernel) rfl)
theorem lm_L_79 : LM RL 79 mi_X11_days := Or.inl (tb5 (i := 134) (by decide +kernel) rfl)
theorem lm_L_82 : LM RL 82 mi_X12_days := Or.inl (tb8 (i := 201) (by decide +kernel) rfl)
theorem lm_L_83 : LM RL 83 mi_X11_undo := Or.inl (tb5 (i := 138) (by decide +kernel) rfl)
theorem lm_L_86 : LM RL 86 mi_X12_undo := Or.inl (tb8 (i := 205) (by decide +kernel) rfl)
theorem lm_L_87 : LM RL 87 mi_X11_keep := Or.inl (tb5 (i := 146) (by decide +kernel) rfl)
theorem lm_L_90 : LM RL 90 mi_X12_keep := Or.inl (tb8 (i := 209) (by decide +kernel) rfl)
theorem lm_L_91 : LM RL 91 mi_X11_again := Or.inl (tb5 (i := 154) (by decide +kernel) rfl)
theorem lm_L_94 : LM RL 94 mi_X12_again := Or.inl (tb8 (i := 213) (by decide +kernel) rfl)
theorem lm_L_95 : LM RL 95 mi_X11_worlds := Or.inl (tb5 (i := 164) (by decide +kernel) rfl)
theorem lm_L_98 : LM RL 98 mi_X12_worlds := Or.inl (tb8 (i := 217) (by decide +kernel) rfl)
theorem lm_L_99 : LM RL 99 mi_X11_clash := Or.inl (tb5 (i := 169) (by decide +kernel) rfl)
theorem lm_L_102 : LM RL 102 mi_X12_clash := Or.inl (tb8 (i := 221) (by decide +kernel) rfl)
theorem lm_L_103 : LM RL 103 mi_X11_implied := Or.inl (tb5 (i := 173) (by decide +kernel) rfl)
theorem lm_L_106 : LM RL 106 mi_X12_implied := Or.inl (tb8 (i := 225) (by decide +kernel) rfl)
theorem lm_L_107 : LM RL 107 mi_X11_lacks := Or.inl (tb5 (i := 179) (by decide +kernel) rfl)
theorem lm_L_110 : LM RL 110 mi_X12_lacks := Or.inl (tb8 (i := 233) (by decide +kernel) rfl)
theorem lm_L_111 : LM RL 111 mi_X11_grown := Or.inl (tb5 (i := 232) (by decide +kernel) rfl)
theorem lm_L_114 : LM RL 114 mi_X12_grown := Or.inl (tb9 (i := 1) (by decide +kernel) rfl)
theorem lm_L_115 : LM RL 115 mi_X11_issues := Or.inl (tb5 (i := 238) (by decide +kernel) rfl)
theorem lm_L_118 : LM RL 118 mi_X12_issues := Or.inl (tb9 (i := 7) (by decide +kernel) rfl)
theorem lm_L_119 : LM RL 119 mi_X11_judged := Or.inl (tb6 (i := 7) (by decide +kernel) rfl)
theorem lm_L_122 : LM RL 122 mi_X12_judged := Or.inl (tb9 (i := 11) (by decide +kernel) rfl)
theorem lm_L_123 : LM RL 123 mi_X11_tries := Or.inl (tb6 (i := 11) (by decide +kernel) rfl)
theorem lm_L_126 : LM RL 126 mi_X12_tries := Or.inl (tb9 (i := 28) (by decide +kernel) rfl)
theorem lm_L_127 : LM RL 127 mi_X11_chance := Or.inl (tb6 (i := 43) (by decide +kernel) rfl)
theorem lm_L_130 : LM RL 130 mi_X12_chance := Or.inl (tb9 (i := 76) (by decide +kernel) rfl)
theorem lm_L_131 : LM RL 131 mi_X11_award := Or.inl (tb6 (i := 54) (by decide +kernel) rfl)
theorem lm_L_134 : LM RL 134 mi_X12_award := Or.inl (tb9 (i := 88) (by decide +kernel) rfl)
theorem lm_L_135 : LM RL 135 mi_X11_meant := Or.inl (tb6 (i := 89) (by decide +kernel) rfl)
theorem lm_L_139 : LM RL 139 mi_X12_meant := Or.inl (tb9 (i := 104) (by decide +kernel) rfl)
theorem lm_L_140 : LM RL 140 mi_X11_outcomes := Or.inl (tb6 (i := 95) (by decide +kernel) rfl)
theorem lm_L_143 : LM RL 143 mi_X12_outcomes := Or.inl (tb9 (i := 109) (by decide +kernel) rfl)
theorem lm_L_144 : LM RL 144 mi_X11_outcome := Or.inl (tb6 (i := 99) (by decide +kernel) rfl)
theorem lm_L_147 : LM RL 147 mi_X12_outcome := Or.inl (tb9 (i := 117) (by decide +kernel) rfl)
theorem lm_L_148 : LM RL 148 mi_X11_proofs := Or.inl (tb6 (i := 103) (by decide +kernel) rfl)
theorem lm_L_151 : LM RL 151 mi_X12_proofs := Or.inl (tb9 (i := 53) (by decide +kernel) rfl)
theorem lm_L_152 : LM RL 152 mi_X11_proof := Or.inl (tb6 (i := 115) (by decide +kernel) rfl)
theorem lm_L_156 : LM RL 156 mi_X12_proof := Or.inl (tb9 (i := 72) (by decide +kernel) rfl)
theorem lm_L_157 : LM RL 157 mi_X11_duel := Or.inl (tb6 (i := 119) (by decide +kernel) rfl)
theorem lm_L_160 : LM RL 160 mi_X12_duel := Or.inl (tb9 (i := 41) (by decide +kernel) rfl)
theorem lm_L_161 : LM RL 161 mi_X11_turn := Or.inl (tb6 (i := 140) (by decide +kernel) rfl)
theorem lm_L_164 : LM RL 164 mi_X12_turn := Or.inl (tb9 (i := 49) (by decide +kernel) rfl)
theorem lm_L_165 : LM RL 165 mi_X11_together := Or.inl (tb6 (i := 148) (by decide +kernel) rfl)
theorem lm_L_168 : LM RL 168 mi_X12_together := Or.inl (tb9 (i := 122) (by decide +kernel) rfl)
theorem lm_L_169 : LM RL 169 mi_X11_elect := Or.inl (tb6 (i := 152) (by decide +kernel) rfl)
theorem lm_L_172 : LM RL 172 mi_X12_elect := Or.inl (tb9 (i := 126) (by decide +kernel) rfl)
theorem lm_L_173 : LM RL 173 mi_X11_ask := Or.inl (tb6 (i := 156) (by decide +kernel) rfl)
theorem lm_L_176 : LM RL 176 mi_X12_ask := Or.inl (tb9 (i := 130) (by decide +kernel) rfl)
theorem lm_L_177 : LM RL 177 mi_X11_asked := Or.inl (tb6 (i := 165) (by decide +kernel) rfl)
theorem lm_L_180 : LM RL 180 mi_X12_asked := Or.inl (tb9 (i := 134) (by decide +kernel) rfl)
theorem lm_L_181 : LM RL 181 mi_X11_count := Or.inl (tb6 (i := 169) (by decide +kernel) rfl)
theorem lm_L_184 : LM RL 184 mi_X12_count := Or.inl (tb9 (i := 138) (by decide +kernel) rfl)
theorem lm_X12_79 : LM RX12 79 mi_X12_laysTables := Or.inl (tb6 (i := 179) (by decide +kernel) rfl)
theorem lm_X12_85 : LM RX12 85 mi_X12_in := Or.inl (tb7 (i := 120) (by decide +kernel) rfl)
theorem lm_X12_95 : LM RX12 95 mi_X12_see := Or.inl (tb7 (i := 135) (by decide +kernel) rfl)
theorem lm_X12_116 : LM RX12 116 mi_J0_length_8abf5 := Or.inl (tb7 (i := 153) (by decide +kernel) rfl)
theorem lm_X12_122 : LM RX12 122 mi_J0_charAt_5068e := Or.inl (tb7 (i := 154) (by decide +kernel) rfl)
theorem lm_X12_129 : LM RX12 129 mi_X12_spelled := Or.inl (tb7 (i := 150) (by decide +kernel) rfl)
theorem lm_X12_135 : LM RX12 135 mi_X12_isWord := Or.inl (tb7 (i := 146) (by decide +kernel) rfl)
theorem lm_X12_162 : LM RX12 162 mi_X12_next := Or.inl (tb7 (i := 131) (by decide +kernel) rfl)
theorem lm_X12_165 : LM RX12 165 mi_X12_wrong := Or.inl (tb7 (i := 163) (by decide +kernel) rfl)
theorem lm_X12_169 : LM RX12 169 mi_X12_passes := Or.inl (tb7 (i := 167) (by decide +kernel) rfl)
theorem lm_X12_172 : LM RX12 172 mi_X12_isName := Or.inl (tb7 (i := 175) (by decide +kernel) rfl)
theorem lm_X12_176 : LM RX12 176 mi_X12_factNamed := Or.inl (tb7 (i := 189) (by decide +kernel) rfl)
theorem lm_X12_179 : LM RX12 179 mi_X12_countNamed := Or.inl (tb7 (i := 193) (by decide +kernel) rfl)
theorem lm_X12_182 : LM RX12 182 mi_X12_here := Or.inl (tb8 (i := 5) (by decide +kernel) rfl)
theorem lm_X12_189 : LM RX12 189 mi_X12_either := Or.inl (tb7 (i := 217) (by decide +kernel) rfl)
theorem lm_X12_192 : LM RX12 192 mi_X12_both := Or.inl (tb7 (i := 221) (by decide +kernel) rfl)
theorem lm_X12_195 : LM RX12 195 mi_X12_isSign := Or.inl (tb7 (i := 201) (by decide +kernel) rfl)
theorem lm_X12_199 : LM RX12 199 mi_X12_step := Or.inl (tb7 (i := 233) (by decide +kernel) rfl)
theorem lm_X12_203 : LM RX12 203 mi_X12_one := Or.inl (tb7 (i := 225) (by decide +kernel) rfl)
theorem lm_X12_206 : LM RX12 206 mi_X12_opens := Or.inl (tb7 (i := 229) (by decide +kernel) rfl)
theorem lm_X12_209 : LM RX12 209 mi_X12_must := Or.inl (tb7 (i := 205) (by decide +kernel) rfl)
theorem lm_X12_213 : LM RX12 213 mi_X12_someOf := Or.inl (tb7 (i := 237) (by decide +kernel) rfl)
theorem lm_X12_216 : LM RX12 216 mi_X12_known := Or.inl (tb8 (i := 9) (by decide +kernel) rfl)
theorem lm_X12_219 : LM RX12 219 mi_X12_number := Or.inl (tb7 (i := 197) (by decide +kernel) rfl)
theorem lm_X12_223 : LM RX12 223 mi_X12_oneTooMany := Or.inl (tb8 (i := 1) (by decide +kernel) rfl)
theorem lm_X12_226 : LM RX12 226 mi_X12_room := Or.inl (tb7 (i := 159) (by decide +kernel) rfl)
theorem lm_X12_229 : LM RX12 229 mi_X12_newName := Or.inl (tb7 (i := 171) (by decide +kernel) rfl)
theorem lm_X12_232 : LM RX12 232 mi_X12_expr := Or.inl (tb7 (i := 213) (by decide +kernel) rfl)
theorem lm_X12_235 : LM RX12 235 mi_X12_mayBe := Or.inl (tb6 (i := 186) (by decide +kernel) rfl)
theorem lm_X12_239 : LM RX12 239 mi_X12_has := Or.inl (tb8 (i := 25) (by decide +kernel) rfl)
theorem lm_X12_247 : LM RX12 247 mi_X12_readFact := Or.inl (tb7 (i := 155) (by decide +kernel) rfl)
theorem lm_X12_250 : LM RX12 250 mi_X12_readNever := Or.inl (tb7 (i := 209) (by decide +kernel) rfl)
theorem lm_X12_253 : LM RX12 253 mi_X12_readCount := Or.inl (tb8 (i := 13) (by decide +kernel) rfl)
theorem lm_X12_256 : LM RX12 256 mi_X12_readPlea := Or.inl (tb8 (i := 17) (by decide +kernel) rfl)
theorem lm_X12_259 : LM RX12 259 mi_X12_readSays := Or.inl (tb8 (i := 21) (by decide +kernel) rfl)
theorem lm_X12_262 : LM RX12 262 mi_X12_readSame := Or.inl (tb8 (i := 28) (by decide +kernel) rfl)
theorem lm_X12_265 : LM RX12 265 mi_X12_readLimit := Or.inl (tb8 (i := 32) (by decide +kernel) rfl)
theorem lm_X12_271 : LM RX12 271 mi_X12_takes := Or.inl (tb7 (i := 127) (by decide +kernel) rfl)
theorem lm_X12_274 : LM RX12 274 mi_X12_readLine := Or.inl (tb7 (i := 141) (by decide +kernel) rfl)
theorem lm_X12_277 : LM RX12 277 mi_X12_isRead := Or.inl (tb8 (i := 36) (by decide +kernel) rfl)
theorem lm_X12_280 : LM RX12 280 mi_X12_begins := Or.inl (tb8 (i := 40) (by decide +kernel) rfl)
theorem lm_X12_283 : LM RX12 283 mi_X12_puts := Or.inl (tb8 (i := 44) (by decide +kernel) rfl)
theorem lm_X12_293 : LM RX12 293 mi_X12_holds := Or.inl (tb6 (i := 190) (by decide +kernel) rfl)
theorem lm_X12_297 : LM RX12 297 mi_X12_empties := Or.inl (tb6 (i := 183) (by decide +kernel) rfl)
theorem lm_X12_301 : LM RX12 301 mi_X12_adds := Or.inl (tb6 (i := 194) (by decide +kernel) rfl)
theorem lm_X12_305 : LM RX12 305 mi_X12_isWonTold := Or.inl (tb6 (i := 197) (by decide +kernel) rfl)
theorem lm_X12_308 : LM RX12 308 mi_X12_laysKnown := Or.inl (tb6 (i := 204) (by decide +kernel) rfl)
theorem lm_X12_311 : LM RX12 311 mi_X12_isIn := Or.inl (tb6 (i := 201) (by decide +kernel) rfl)
theorem lm_X12_315 : LM RX12 315 mi_X12_bits := Or.inl (tb8 (i := 84) (by decide +kernel) rfl)
theorem lm_X12_318 : LM RX12 318 mi_X12_holdsIn := Or.inl (tb8 (i := 123) (by decide +kernel) rfl)
theorem lm_X12_322 : LM RX12 322 mi_X12_many := Or.inl (tb8 (i := 112) (by decide +kernel) rfl)
theorem lm_X12_326 : LM RX12 326 mi_X12_isKnown := Or.inl (tb6 (i := 212) (by decide +kernel) rfl)
theorem lm_X12_329 : LM RX12 329 mi_X12_knownFacts := Or.inl (tb6 (i := 208) (by decide +kernel) rfl)
theorem lm_X12_332 : LM RX12 332 mi_X12_knownSo := Or.inl (tb6 (i := 216) (by decide +kernel) rfl)
theorem lm_X12_335 : LM RX12 335 mi_X12_laysAgreed := Or.inl (tb6 (i := 220) (by decide +kernel) rfl)
theorem lm_X12_339 : LM RX12 339 mi_X12_its := Or.inl (tb8 (i := 64) (by decide +kernel) rfl)
theorem lm_X12_342 : LM RX12 342 mi_X12_barOf := Or.inl (tb8 (i := 100) (by decide +kernel) rfl)
theorem lm_X12_345 : Cond.methodLink RX12 345 Lib.Math.min.name ∈ TB := tb8 (i := 87) (by decide +kernel) rfl
theorem lm_X12_350 : LM RX12 350 mi_X12_backBy := Or.inl (tb8 (i := 80) (by decide +kernel) rfl)
theorem lm_X12_353 : LM RX12 353 mi_X12_needs := Or.inl (tb8 (i := 92) (by decide +kernel) rfl)
theorem lm_X12_355 : LM RX12 355 mi_X12_need := Or.inl (tb8 (i := 115) (by decide +kernel) rfl)
theorem lm_X12_358 : LM RX12 358 mi_X12_isSure := Or.inl (tb8 (i := 119) (by decide +kernel) rfl)
theorem lm_X12_361 : LM RX12 361 mi_X12_bars := Or.inl (tb8 (i := 96) (by decide +kernel) rfl)
theorem lm_X12_364 : LM RX12 364 mi_X12_laysBacks := Or.inl (tb8 (i := 76) (by decide +kernel) rfl)
theorem lm_X12_367 : LM RX12 367 mi_X12_failsBy := Or.inl (tb8 (i := 108) (by decide +kernel) rfl)
theorem lm_X12_371 : LM RX12 371 mi_X12_failing := Or.inl (tb8 (i := 104) (by decide +kernel) rfl)
theorem lm_X12_374 : LM RX12 374 mi_X12_isFact := Or.inl (tb8 (i := 56) (by decide +kernel) rfl)
theorem lm_X12_377 : LM RX12 377 mi_X12_sayers := Or.inl (tb8 (i := 60) (by decide +kernel) rfl)
theorem lm_X12_380 : LM RX12 380 mi_X12_isCount := Or.inl (tb8 (i := 72) (by decide +kernel) rfl)
theorem lm_X12_383 : LM RX12 383 mi_X12_laysInjuries := Or.inl (tb8 (i := 88) (by decide +kernel) rfl)
theorem lm_X12_386 : LM RX12 386 mi_X12_turned := Or.inl (tb8 (i := 139) (by decide +kernel) rfl)
theorem lm_X12_389 : LM RX12 389 mi_X12_andOf := Or.inl (tb8 (i := 142) (by decide +kernel) rfl)
theorem lm_X12_392 : LM RX12 392 mi_X12_seen := Or.inl (tb8 (i := 135) (by decide +kernel) rfl)
theorem lm_X12_395 : LM RX12 395 mi_X12_tellsOf := Or.inl (tb8 (i := 131) (by decide +kernel) rfl)
theorem lm_X12_398 : LM RX12 398 mi_X12_isLeft := Or.inl (tb8 (i := 157) (by decide +kernel) rfl)
theorem lm_X12_401 : LM RX12 401 mi_X12_isSomeBy := Or.inl (tb8 (i := 153) (by decide +kernel) rfl)
theorem lm_X12_404 : LM RX12 404 mi_X12_keepsAct := Or.inl (tb8 (i := 161) (by decide +kernel) rfl)
theorem lm_X12_407 : LM RX12 407 mi_X12_makes := Or.inl (tb8 (i := 165) (by decide +kernel) rfl)
theorem lm_X12_410 : LM RX12 410 mi_X12_answered := Or.inl (tb8 (i := 169) (by decide +kernel) rfl)
theorem lm_X12_413 : LM RX12 413 mi_X12_firstSayer := Or.inl (tb8 (i := 181) (by decide +kernel) rfl)
theorem lm_X12_416 : LM RX12 416 mi_X12_isWon := Or.inl (tb8 (i := 229) (by decide +kernel) rfl)
theorem lm_X12_425 : LM RX12 425 mi_X12_lacksSo := Or.inl (tb8 (i := 237) (by decide +kernel) rfl)
theorem lm_X12_435 : LM RX12 435 mi_X12_tells := Or.inl (tb9 (i := 25) (by decide +kernel) rfl)
theorem lm_X12_438 : LM RX12 438 mi_X12_untold := Or.inl (tb9 (i := 21) (by decide +kernel) rfl)
theorem lm_X12_441 : LM RX12 441 mi_X12_laysWays := Or.inl (tb9 (i := 15) (by decide +kernel) rfl)
theorem lm_X12_444 : Cond.methodLink RX12 444 Lib.Math.max.name ∈ TB := tb9 (i := 40) (by decide +kernel) rfl
theorem lm_X12_447 : LM RX12 447 mi_X12_triedBy := Or.inl (tb9 (i := 36) (by decide +kernel) rfl)
theorem lm_X12_450 : LM RX12 450 mi_X12_laysTrials := Or.inl (tb9 (i := 32) (by decide +kernel) rfl)
theorem lm_X12_453 : LM RX12 453 mi_X12_laysDuel := Or.inl (tb9 (i := 45) (by decide +kernel) rfl)
theorem lm_X12_456 : LM RX12 456 mi_X12_wayOf := Or.inl (tb9 (i := 65) (by decide +kernel) rfl)
theorem lm_X12_459 : LM RX12 459 mi_X12_isProved := Or.inl (tb9 (i := 68) (by decide +kernel) rfl)
theorem lm_X12_463 : LM RX12 463 mi_X12_isProof := Or.inl (tb9 (i := 61) (by decide +kernel) rfl)
theorem lm_X12_467 : LM RX12 467 mi_X12_findsProofs := Or.inl (tb9 (i := 57) (by decide +kernel) rfl)
theorem lm_X12_477 : LM RX12 477 mi_X12_weight := Or.inl (tb9 (i := 80) (by decide +kernel) rfl)
theorem lm_X12_481 : LM RX12 481 mi_X12_tellsBy := Or.inl (tb9 (i := 84) (by decide +kernel) rfl)
theorem lm_X12_485 : LM RX12 485 mi_X12_standing := Or.inl (tb9 (i := 96) (by decide +kernel) rfl)
theorem lm_X12_488 : LM RX12 488 mi_X12_laysWins := Or.inl (tb9 (i := 92) (by decide +kernel) rfl)
theorem lm_X12_491 : LM RX12 491 mi_X12_awardOf := Or.inl (tb9 (i := 100) (by decide +kernel) rfl)
theorem lm_X12_496 : LM RX12 496 mi_X12_firstLike := Or.inl (tb9 (i := 113) (by decide +kernel) rfl)
theorem lm_X12_499 : LM RX12 499 mi_X12_outcomes := Or.inl (tb9 (i := 121) (by decide +kernel) rfl)
theorem lm_J0_335 : LM RJ0 335 mi_J0_coder_7d493 := Or.inl (tb1 (i := 60) (by decide +kernel) rfl)
theorem lm_J0_492 : LM RJ0 492 mi_J0_isLatin1_aae02 := Or.inl (tb1 (i := 70) (by decide +kernel) rfl)
theorem lm_J0_495 : LM RJ0 495 mi_J1_charAt_3b067 := Or.inl (tb1 (i := 74) (by decide +kernel) rfl)
theorem lm_J0_505 : LM RJ0 505 mi_J0_length_8abf5 := Or.inl (tb3 (i := 213) (by decide +kernel) rfl)
theorem lm_J0_633 : LM RJ0 633 mi_J0_indexOf_7cf53 := Or.inl (tb3 (i := 209) (by decide +kernel) rfl)
theorem lm_J0_637 : LM RJ0 637 mi_J1_indexOf_4cfef := Or.inl (tb3 (i := 214) (by decide +kernel) rfl)
theorem lm_J0_1059 : LM RJ0 1059 mi_J3_checkIndex_8e157 := Or.inl (tb1 (i := 82) (by decide +kernel) rfl)
theorem lm_J1_9 : LM RJ1 9 mi_J0_checkIndex_df160 := Or.inl (tb1 (i := 77) (by decide +kernel) rfl)
theorem lm_J1_38 : Cond.methodLink RJ1 38 Lib.Math.min.name ∈ TB := tb3 (i := 223) (by decide +kernel) rfl
theorem lm_J1_88 : LM RJ1 88 mi_J1_canEncode_9a6ad := Or.inl (tb3 (i := 217) (by decide +kernel) rfl)
theorem lm_J1_92 : Cond.methodLink RJ1 92 Lib.Math.max.name ∈ TB := tb3 (i := 220) (by decide +kernel) rfl
theorem lm_J1_95 : LM RJ1 95 mi_J1_indexOfChar_4cfef := Or.inl (tb3 (i := 226) (by decide +kernel) rfl)
theorem ac_I : Cond.arrayClass .int ∈ TB := tb1 (i := 45) (by decide +kernel) rfl
theorem ac_J : Cond.arrayClass .long ∈ TB := tb1 (i := 158) (by decide +kernel) rfl
theorem ac_Z : Cond.arrayClass .boolean ∈ TB := tb7 (i := 111) (by decide +kernel) rfl
theorem nw_X11_7 : NWk RX11 7 RX7 2 tyX7 := ⟨tb1 (i := 30) (by decide +kernel) rfl, tb1 (i := 31) (by decide +kernel) rfl, tb1 (i := 2) (by decide +kernel) rfl, by decide⟩
theorem nw_X11_16 : NWk RX11 16 RX8 5 tyX8 := ⟨tb1 (i := 46) (by decide +kernel) rfl, tb1 (i := 47) (by decide +kernel) rfl, tb1 (i := 3) (by decide +kernel) rfl, by decide⟩
theorem nw_X11_23 : NWk RX11 23 RX4 7 tyX4 := ⟨tb1 (i := 130) (by decide +kernel) rfl, tb1 (i := 131) (by decide +kernel) rfl, tb1 (i := 8) (by decide +kernel) rfl, by decide⟩
theorem nw_X11_30 : NWk RX11 30 RX1 20 tyX1 := ⟨tb1 (i := 159) (by decide +kernel) rfl, tb1 (i := 160) (by decide +kernel) rfl, tb1 (i := 9) (by decide +kernel) rfl, by decide⟩
theorem nw_X11_40 : NWk RX11 40 RX5 15 tyX5 := ⟨tb2 (i := 29) (by decide +kernel) rfl, tb2 (i := 30) (by decide +kernel) rfl, tb1 (i := 11) (by decide +kernel) rfl, by decide⟩
theorem nw_X11_50 : NWk RX11 50 RX2 9 tyX2 := ⟨tb2 (i := 93) (by decide +kernel) rfl, tb2 (i := 94) (by decide +kernel) rfl, tb1 (i := 12) (by decide +kernel) rfl, by decide⟩
theorem nw_X11_59 : NWk RX11 59 RX0 5 tyX0 := ⟨tb2 (i := 131) (by decide +kernel) rfl, tb2 (i := 132) (by decide +kernel) rfl, tb1 (i := 13) (by decide +kernel) rfl, by decide⟩
theorem nw_X11_66 : NWk RX11 66 RX10 1 tyX10 := ⟨tb2 (i := 157) (by decide +kernel) rfl, tb1 (i := 166) (by decide +kernel) rfl, tb1 (i := 10) (by decide +kernel) rfl, by decide⟩
theorem nw_X11_79 : NWk RX11 79 RX9 5 tyX9 := ⟨tb2 (i := 159) (by decide +kernel) rfl, tb2 (i := 160) (by decide +kernel) rfl, tb1 (i := 14) (by decide +kernel) rfl, by decide⟩
theorem nw_X11_86 : NWk RX11 86 RX3 5 tyX3 := ⟨tb2 (i := 186) (by decide +kernel) rfl, tb2 (i := 187) (by decide +kernel) rfl, tb1 (i := 15) (by decide +kernel) rfl, by decide⟩
theorem nw_X11_93 : NWk RX11 93 RX6 6 tyX6 := ⟨tb2 (i := 210) (by decide +kernel) rfl, tb2 (i := 211) (by decide +kernel) rfl, tb1 (i := 16) (by decide +kernel) rfl, by decide⟩
theorem nw_X0_9 : NWk RX0 9 RX5 15 tyX5 := ⟨tb2 (i := 137) (by decide +kernel) rfl, tb2 (i := 30) (by decide +kernel) rfl, tb1 (i := 11) (by decide +kernel) rfl, by decide⟩
theorem nw_X1_42 : NWk RX1 42 RX10 1 tyX10 := ⟨tb1 (i := 165) (by decide +kernel) rfl, tb1 (i := 166) (by decide +kernel) rfl, tb1 (i := 10) (by decide +kernel) rfl, by decide⟩
theorem nw_X2_9 : NWk RX2 9 RX10 1 tyX10 := ⟨tb2 (i := 99) (by decide +kernel) rfl, tb1 (i := 166) (by decide +kernel) rfl, tb1 (i := 10) (by decide +kernel) rfl, by decide⟩
theorem nw_L_7 : NWk RL 7 RX11 18 tyX11 := ⟨tb1 (i := 22) (by decide +kernel) rfl, tb1 (i := 23) (by decide +kernel) rfl, tb1 (i := 1) (by decide +kernel) rfl, by decide⟩
theorem nw_L_10 : NWk RL 10 RX12 42 tyX12 := ⟨tb6 (i := 173) (by decide +kernel) rfl, tb6 (i := 174) (by decide +kernel) rfl, tb1 (i := 17) (by decide +kernel) rfl, by decide⟩
theorem na_X0_9 : Cond.classLink RX0 9 RX5 ∈ TB := tb2 (i := 137) (by decide +kernel) rfl
theorem na_X1_42 : Cond.classLink RX1 42 RX10 ∈ TB := tb1 (i := 165) (by decide +kernel) rfl
theorem lo_X11_1 : Cond.methodLink RX11 1 Lib.objectInit ∈ TB ∧ Cond.instanceMethod Lib.objectInit ∈ TB ∧ Cond.code Lib.objectInit ⟨#[0xb1]⟩ 1 none ∈ TB := ⟨tb1 (i := 27) (by decide +kernel) rfl, tb1 (i := 28) (by decide +kernel) rfl, tb1 (i := 29) (by decide +kernel) rfl⟩
theorem lo_X0_3 : Cond.methodLink RX0 3 Lib.objectInit ∈ TB ∧ Cond.instanceMethod Lib.objectInit ∈ TB ∧ Cond.code Lib.objectInit ⟨#[0xb1]⟩ 1 none ∈ TB := ⟨tb2 (i := 136) (by decide +kernel) rfl, tb1 (i := 28) (by decide +kernel) rfl, tb1 (i := 29) (by decide +kernel) rfl⟩
theorem lo_X1_5 : Cond.methodLink RX1 5 Lib.objectInit ∈ TB ∧ Cond.instanceMethod Lib.objectInit ∈ TB ∧ Cond.code Lib.objectInit ⟨#[0xb1]⟩ 1 none ∈ TB := ⟨tb1 (i := 164) (by decide +kernel) rfl, tb1 (i := 28) (by decide +kernel) rfl, tb1 (i := 29) (by decide +kernel) rfl⟩
theorem lo_X2_3 : Cond.methodLink RX2 3 Lib.objectInit ∈ TB ∧ Cond.instanceMethod Lib.objectInit ∈ TB ∧ Cond.code Lib.objectInit ⟨#[0xb1]⟩ 1 none ∈ TB := ⟨tb2 (i := 98) (by decide +kernel) rfl, tb1 (i := 28) (by decide +kernel) rfl, tb1 (i := 29) (by decide +kernel) rfl⟩
theorem lo_X3_3 : Cond.methodLink RX3 3 Lib.objectInit ∈ TB ∧ Cond.instanceMethod Lib.objectInit ∈ TB ∧ Cond.code Lib.objectInit ⟨#[0xb1]⟩ 1 none ∈ TB := ⟨tb2 (i := 191) (by decide +kernel) rfl, tb1 (i := 28) (by decide +kernel) rfl, tb1 (i := 29) (by decide +kernel) rfl⟩
theorem lo_X4_3 : Cond.methodLink RX4 3 Lib.objectInit ∈ TB ∧ Cond.instanceMethod Lib.objectInit ∈ TB ∧ Cond.code Lib.objectInit ⟨#[0xb1]⟩ 1 none ∈ TB := ⟨tb1 (i := 135) (by decide +kernel) rfl, tb1 (i := 28) (by decide +kernel) rfl, tb1 (i := 29) (by decide +kernel) rfl⟩
theorem lo_X5_3 : Cond.methodLink RX5 3 Lib.objectInit ∈ TB ∧ Cond.instanceMethod Lib.objectInit ∈ TB ∧ Cond.code Lib.objectInit ⟨#[0xb1]⟩ 1 none ∈ TB := ⟨tb2 (i := 34) (by decide +kernel) rfl, tb1 (i := 28) (by decide +kernel) rfl, tb1 (i := 29) (by decide +kernel) rfl⟩
theorem lo_X6_3 : Cond.methodLink RX6 3 Lib.objectInit ∈ TB ∧ Cond.instanceMethod Lib.objectInit ∈ TB ∧ Cond.code Lib.objectInit ⟨#[0xb1]⟩ 1 none ∈ TB := ⟨tb2 (i := 215) (by decide +kernel) rfl, tb1 (i := 28) (by decide +kernel) rfl, tb1 (i := 29) (by decide +kernel) rfl⟩
theorem lo_X7_3 : Cond.methodLink RX7 3 Lib.objectInit ∈ TB ∧ Cond.instanceMethod Lib.objectInit ∈ TB ∧ Cond.code Lib.objectInit ⟨#[0xb1]⟩ 1 none ∈ TB := ⟨tb1 (i := 35) (by decide +kernel) rfl, tb1 (i := 28) (by decide +kernel) rfl, tb1 (i := 29) (by decide +kernel) rfl⟩
theorem lo_X8_3 : Cond.methodLink RX8 3 Lib.objectInit ∈ TB ∧ Cond.instanceMethod Lib.objectInit ∈ TB ∧ Cond.code Lib.objectInit ⟨#[0xb1]⟩ 1 none ∈ TB := ⟨tb1 (i := 51) (by decide +kernel) rfl, tb1 (i := 28) (by decide +kernel) rfl, tb1 (i := 29) (by decide +kernel) rfl⟩
theorem lo_X9_3 : Cond.methodLink RX9 3 Lib.objectInit ∈ TB ∧ Cond.instanceMethod Lib.objectInit ∈ TB ∧ Cond.code Lib.objectInit ⟨#[0xb1]⟩ 1 none ∈ TB := ⟨tb2 (i := 164) (by decide +kernel) rfl, tb1 (i := 28) (by decide +kernel) rfl, tb1 (i := 29) (by decide +kernel) rfl⟩
theorem lo_X10_3 : Cond.methodLink RX10 3 Lib.objectInit ∈ TB ∧ Cond.instanceMethod Lib.objectInit ∈ TB ∧ Cond.code Lib.objectInit ⟨#[0xb1]⟩ 1 none ∈ TB := ⟨tb1 (i := 170) (by decide +kernel) rfl, tb1 (i := 28) (by decide +kernel) rfl, tb1 (i := 29) (by decide +kernel) rfl⟩
theorem lo_X12_1 : Cond.methodLink RX12 1 Lib.objectInit ∈ TB ∧ Cond.instanceMethod Lib.objectInit ∈ TB ∧ Cond.code Lib.objectInit ⟨#[0xb1]⟩ 1 none ∈ TB := ⟨tb6 (i := 178) (by decide +kernel) rfl, tb1 (i := 28) (by decide +kernel) rfl, tb1 (i := 29) (by decide +kernel) rfl⟩
theorem gz_2 : ∀ (w : Wd) (U : State) (H : Heap), roOk w U H → va_Z "StruckCounts$Worlds" "SO" "[J" (vR w 2) (wArea w) U H := fun w U H h => h.2.1
theorem gz_3 : ∀ (w : Wd) (U : State) (H : Heap), roOk w U H → va_Z "StruckCountsModel" "THREES" "[I" (vR w 3) (wArea w) U H := fun w U H h => h.2.2.1
theorem gs_X10_15 : Cond.fieldLink RX10 15 "StruckCounts$Worlds" "SO" "[J" ∈ TB ∨ ∃ host, Cond.fieldLinkNest RX10 15 "StruckCounts$Worlds" "SO" "[J" host ∈ NW := Or.inl (tb3 (i := 30) (by decide +kernel) rfl)
theorem gs_X12_432 : Cond.fieldLink RX12 432 "StruckCountsModel" "THREES" "[I" ∈ TB ∨ ∃ host, Cond.fieldLinkNest RX12 432 "StruckCountsModel" "THREES" "[I" host ∈ NW := Or.inl (tb9 (i := 19) (by decide +kernel) rfl)
theorem lsf_J0_9 : Cond.fieldLink RJ0 9 "java/lang/String" "value" "[B" ∈ TB := tb9 (i := 142) (by decide +kernel) rfl
theorem lsf_J0_15 : Cond.fieldLink RJ0 15 "java/lang/String" "coder" "B" ∈ TB := tb9 (i := 143) (by decide +kernel) rfl
theorem lsf_J0_38 : Cond.fieldLink RJ0 38 "java/lang/String" "COMPACT_STRINGS" "Z" ∈ TB := tb1 (i := 64) (by decide +kernel) rfl
theorem lsf_J0_1053 : Cond.fieldLink RJ0 1053 "jdk/internal/util/Preconditions" "SIOOBE_FORMATTER" "Ljava/util/function/BiFunction;" ∈ TB := tb1 (i := 80) (by decide +kernel) rfl
theorem kc_X11_359 : Cond.constant RX11 359 (2147483647 : Int32) ∈ TB := tb6 (i := 83) (by decide +kernel) rfl
theorem kc_J6_265 : Cond.constant RJ6 265 (1431655765 : Int32) ∈ TB := tb4 (i := 226) (by decide +kernel) rfl
theorem kc_J6_266 : Cond.constant RJ6 266 (858993459 : Int32) ∈ TB := tb4 (i := 227) (by decide +kernel) rfl
theorem kc_J6_267 : Cond.constant RJ6 267 (252645135 : Int32) ∈ TB := tb4 (i := 228) (by decide +kernel) rfl
theorem kl_X11_321 : Cond.constantLong RX11 321 (2147483647 : Int64) ∈ TB := tb5 (i := 236) (by decide +kernel) rfl
theorem kl_X11_323 : Cond.constantLong RX11 323 (10 : Int64) ∈ TB := tb5 (i := 237) (by decide +kernel) rfl
theorem kl_X11_375 : Cond.constantLong RX11 375 (-1 : Int64) ∈ TB := tb6 (i := 93) (by decide +kernel) rfl
theorem kl_X4_89 : Cond.constantLong RX4 89 (-1 : Int64) ∈ TB := tb3 (i := 54) (by decide +kernel) rfl
theorem kl_X10_18 : Cond.constantLong RX10 18 (-1 : Int64) ∈ TB := tb3 (i := 11) (by decide +kernel) rfl
theorem kl_X12_112 : Cond.constantLong RX12 112 (27 : Int64) ∈ TB := tb7 (i := 139) (by decide +kernel) rfl
theorem kl_X12_114 : Cond.constantLong RX12 114 (96 : Int64) ∈ TB := tb7 (i := 140) (by decide +kernel) rfl
theorem kl_X12_428 : Cond.constantLong RX12 428 (10 : Int64) ∈ TB := tb9 (i := 5) (by decide +kernel) rfl
theorem kl_X12_430 : Cond.constantLong RX12 430 (2147483647 : Int64) ∈ TB := tb9 (i := 6) (by decide +kernel) rfl
theorem kl_X12_494 : Cond.constantLong RX12 494 (-1 : Int64) ∈ TB := tb9 (i := 108) (by decide +kernel) rfl
theorem kl_J13_314 : Cond.constantLong RJ13 314 (6148914691236517205 : Int64) ∈ TB := tb4 (i := 123) (by decide +kernel) rfl
theorem kl_J13_316 : Cond.constantLong RJ13 316 (3689348814741910323 : Int64) ∈ TB := tb4 (i := 124) (by decide +kernel) rfl
theorem kl_J13_318 : Cond.constantLong RJ13 318 (1085102592571150095 : Int64) ∈ TB := tb4 (i := 125) (by decide +kernel) rfl
