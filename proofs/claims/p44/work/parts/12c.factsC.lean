abbrev Ncl (own : String) (i : Nat) : Prop := Cond.methodLink own i ⟨"[B", "clone", "()Ljava/lang/Object;"⟩ ∈ TB ∧ Cond.sameMethod "[B" "java/lang/Object" "clone" "()Ljava/lang/Object;" ∈ TB ∧ Cond.native ⟨"java/lang/Object", "clone", "()Ljava/lang/Object;"⟩ ∈ TB ∧ Cond.instanceMethod ⟨"java/lang/Object", "clone", "()Ljava/lang/Object;"⟩ ∈ TB ∧ Cond.selects "[B" ⟨"[B", "clone", "()Ljava/lang/Object;"⟩ ⟨"java/lang/Object", "clone", "()Ljava/lang/Object;"⟩ ∈ TB
theorem ms_init : Cond.initialized "java/lang/Math" ∈ TB := tb1 (i := 20) (by decide +kernel) rfl
theorem ms_mmax : Cond.static Lib.Math.max.name ∈ TB := tb4 (i := 12) (by decide +kernel) rfl
theorem mc_mmax : Cond.code Lib.Math.max.name Lib.Math.max.code 2 (some .int) ∈ TB := tb4 (i := 13) (by decide +kernel) rfl
theorem ms_mmin : Cond.static Lib.Math.min.name ∈ TB := tb4 (i := 97) (by decide +kernel) rfl
theorem mc_mmin : Cond.code Lib.Math.min.name Lib.Math.min.code 2 (some .int) ∈ TB := tb4 (i := 98) (by decide +kernel) rfl
theorem ms_dabs : Cond.static ⟨"java/lang/Math", "abs", "(D)D"⟩ ∈ TB := tb9 (i := 26) (by decide +kernel) rfl
abbrev dabsC : ByteArray := ⟨#[0x26, 0xb8, 0x00, 0x4f, 0x14, 0x00, 0x87, 0x7f, 0xb8, 0x00, 0xa6, 0xaf]⟩
theorem mc_dabs : Cond.code ⟨"java/lang/Math", "abs", "(D)D"⟩ dabsC 2 (some .double) ∈ TB := tb9 (i := 27) (by decide +kernel) rfl
theorem lk_X11_10 : LK RX11 10 RX11 TX11 0 := Or.inl ⟨_, tb3 (i := 119) (by decide +kernel) rfl, Or.inl rfl⟩
theorem lt_X11_10 : Cond.fieldLink RX11 10 (TX11 0).1 (TX11 0).2.1 (TX11 0).2.2.1 ∈ TB := tb3 (i := 119) (by decide +kernel) rfl
theorem lk_X11_19 : LK RX11 19 RX11 TX11 1 := Or.inl ⟨_, tb3 (i := 120) (by decide +kernel) rfl, Or.inl rfl⟩
theorem lt_X11_19 : Cond.fieldLink RX11 19 (TX11 1).1 (TX11 1).2.1 (TX11 1).2.2.1 ∈ TB := tb3 (i := 120) (by decide +kernel) rfl
theorem lk_X11_26 : LK RX11 26 RX11 TX11 2 := Or.inl ⟨_, tb3 (i := 121) (by decide +kernel) rfl, Or.inl rfl⟩
theorem lt_X11_26 : Cond.fieldLink RX11 26 (TX11 2).1 (TX11 2).2.1 (TX11 2).2.2.1 ∈ TB := tb3 (i := 121) (by decide +kernel) rfl
theorem lk_X11_33 : LK RX11 33 RX11 TX11 3 := Or.inl ⟨_, tb3 (i := 122) (by decide +kernel) rfl, Or.inl rfl⟩
theorem lk_X11_37 : LK RX11 37 RX11 TX11 4 := Or.inl ⟨_, tb3 (i := 123) (by decide +kernel) rfl, Or.inl rfl⟩
theorem lk_X11_43 : LK RX11 43 RX11 TX11 5 := Or.inl ⟨_, tb3 (i := 124) (by decide +kernel) rfl, Or.inl rfl⟩
theorem lk_X11_47 : LK RX11 47 RX11 TX11 6 := Or.inl ⟨_, tb3 (i := 125) (by decide +kernel) rfl, Or.inl rfl⟩
theorem lk_X11_55 : LK RX11 55 RX11 TX11 7 := Or.inl ⟨_, tb3 (i := 126) (by decide +kernel) rfl, Or.inl rfl⟩
theorem lt_X11_55 : Cond.fieldLink RX11 55 (TX11 7).1 (TX11 7).2.1 (TX11 7).2.2.1 ∈ TB := tb3 (i := 126) (by decide +kernel) rfl
theorem lk_X11_62 : LK RX11 62 RX11 TX11 8 := Or.inl ⟨_, tb3 (i := 127) (by decide +kernel) rfl, Or.inl rfl⟩
theorem lt_X11_62 : Cond.fieldLink RX11 62 (TX11 8).1 (TX11 8).2.1 (TX11 8).2.2.1 ∈ TB := tb3 (i := 127) (by decide +kernel) rfl
theorem lk_X11_69 : LK RX11 69 RX11 TX11 9 := Or.inl ⟨_, tb3 (i := 128) (by decide +kernel) rfl, Or.inl rfl⟩
theorem lt_X11_69 : Cond.fieldLink RX11 69 (TX11 9).1 (TX11 9).2.1 (TX11 9).2.2.1 ∈ TB := tb3 (i := 128) (by decide +kernel) rfl
theorem lk_X11_73 : LK RX11 73 RX11 TX11 10 := Or.inl ⟨_, tb3 (i := 129) (by decide +kernel) rfl, Or.inl rfl⟩
theorem lt_X11_73 : Cond.fieldLink RX11 73 (TX11 10).1 (TX11 10).2.1 (TX11 10).2.2.1 ∈ TB := tb3 (i := 129) (by decide +kernel) rfl
theorem lk_X11_76 : LK RX11 76 RX11 TX11 11 := Or.inl ⟨_, tb3 (i := 130) (by decide +kernel) rfl, Or.inl rfl⟩
theorem lt_X11_76 : Cond.fieldLink RX11 76 (TX11 11).1 (TX11 11).2.1 (TX11 11).2.2.1 ∈ TB := tb3 (i := 130) (by decide +kernel) rfl
theorem lk_X11_82 : LK RX11 82 RX11 TX11 12 := Or.inl ⟨_, tb3 (i := 131) (by decide +kernel) rfl, Or.inl rfl⟩
theorem lt_X11_82 : Cond.fieldLink RX11 82 (TX11 12).1 (TX11 12).2.1 (TX11 12).2.2.1 ∈ TB := tb3 (i := 131) (by decide +kernel) rfl
theorem lk_X11_89 : LK RX11 89 RX11 TX11 13 := Or.inl ⟨_, tb3 (i := 132) (by decide +kernel) rfl, Or.inl rfl⟩
theorem lt_X11_89 : Cond.fieldLink RX11 89 (TX11 13).1 (TX11 13).2.1 (TX11 13).2.2.1 ∈ TB := tb3 (i := 132) (by decide +kernel) rfl
theorem lk_X11_96 : LK RX11 96 RX11 TX11 14 := Or.inl ⟨_, tb3 (i := 133) (by decide +kernel) rfl, Or.inl rfl⟩
theorem lt_X11_96 : Cond.fieldLink RX11 96 (TX11 14).1 (TX11 14).2.1 (TX11 14).2.2.1 ∈ TB := tb3 (i := 133) (by decide +kernel) rfl
theorem lk_X11_100 : LK RX11 100 RX11 TX11 15 := Or.inl ⟨_, tb3 (i := 134) (by decide +kernel) rfl, Or.inl rfl⟩
theorem lt_X11_100 : Cond.fieldLink RX11 100 (TX11 15).1 (TX11 15).2.1 (TX11 15).2.2.1 ∈ TB := tb3 (i := 134) (by decide +kernel) rfl
theorem lk_X11_115 : LK RX11 115 RX7 TX7 1 := Or.inr ⟨"StruckCounts", nw1 (i := 58) (by decide +kernel) rfl⟩
theorem lk_X11_133 : LK RX11 133 RX11 TX11 17 := Or.inl ⟨_, tb3 (i := 136) (by decide +kernel) rfl, Or.inl rfl⟩
theorem lk_X11_137 : LK RX11 137 RX1 TX1 0 := Or.inr ⟨"StruckCounts", nw1 (i := 199) (by decide +kernel) rfl⟩
theorem lk_X11_140 : LK RX11 140 RX2 TX2 7 := Or.inr ⟨"StruckCounts", nw2 (i := 129) (by decide +kernel) rfl⟩
theorem lk_X11_143 : LK RX11 143 RX2 TX2 8 := Or.inr ⟨"StruckCounts", nw2 (i := 130) (by decide +kernel) rfl⟩
theorem lk_X11_149 : LK RX11 149 RX1 TX1 6 := Or.inr ⟨"StruckCounts", nw1 (i := 214) (by decide +kernel) rfl⟩
theorem lk_X11_168 : LK RX11 168 RX5 TX5 8 := Or.inr ⟨"StruckCounts", nw2 (i := 68) (by decide +kernel) rfl⟩
theorem lk_X11_177 : LK RX11 177 RX5 TX5 10 := Or.inr ⟨"StruckCounts", nw2 (i := 72) (by decide +kernel) rfl⟩
theorem lk_X11_180 : LK RX11 180 RX5 TX5 11 := Or.inr ⟨"StruckCounts", nw2 (i := 74) (by decide +kernel) rfl⟩
theorem lk_X11_183 : LK RX11 183 RX5 TX5 12 := Or.inr ⟨"StruckCounts", nw2 (i := 76) (by decide +kernel) rfl⟩
theorem lk_X11_189 : LK RX11 189 RX1 TX1 8 := Or.inr ⟨"StruckCounts", nw1 (i := 219) (by decide +kernel) rfl⟩
theorem lk_X11_198 : LK RX11 198 RX5 TX5 13 := Or.inr ⟨"StruckCounts", nw2 (i := 78) (by decide +kernel) rfl⟩
theorem lk_X11_201 : LK RX11 201 RX5 TX5 14 := Or.inr ⟨"StruckCounts", nw2 (i := 81) (by decide +kernel) rfl⟩
theorem lk_X11_210 : LK RX11 210 RX1 TX1 11 := Or.inr ⟨"StruckCounts", nw1 (i := 226) (by decide +kernel) rfl⟩
theorem lk_X11_224 : LK RX11 224 RX5 TX5 1 := Or.inr ⟨"StruckCounts", nw2 (i := 58) (by decide +kernel) rfl⟩
theorem lk_X11_243 : LK RX11 243 RX1 TX1 1 := Or.inr ⟨"StruckCounts", nw1 (i := 202) (by decide +kernel) rfl⟩
theorem lk_X11_257 : LK RX11 257 RX5 TX5 3 := Or.inr ⟨"StruckCounts", nw2 (i := 62) (by decide +kernel) rfl⟩
theorem lk_X11_264 : LK RX11 264 RX5 TX5 2 := Or.inr ⟨"StruckCounts", nw2 (i := 60) (by decide +kernel) rfl⟩
theorem lk_X11_270 : LK RX11 270 RX5 TX5 0 := Or.inr ⟨"StruckCounts", nw2 (i := 56) (by decide +kernel) rfl⟩
theorem lk_X11_277 : LK RX11 277 RX0 TX0 4 := Or.inr ⟨"StruckCounts", nw2 (i := 165) (by decide +kernel) rfl⟩
theorem lk_X11_287 : LK RX11 287 RX1 TX1 17 := Or.inr ⟨"StruckCounts", nw2 (i := 5) (by decide +kernel) rfl⟩
theorem lk_X11_319 : LK RX11 319 RX3 TX3 2 := Or.inr ⟨"StruckCounts", nw2 (i := 215) (by decide +kernel) rfl⟩
theorem lk_X11_320 : LK RX11 320 RX3 TX3 3 := Or.inr ⟨"StruckCounts", nw2 (i := 217) (by decide +kernel) rfl⟩
theorem lk_X11_360 : LK RX11 360 RX6 TX6 5 := Or.inr ⟨"StruckCounts", nw3 (i := 6) (by decide +kernel) rfl⟩
theorem lk_X11_361 : LK RX11 361 RX6 TX6 0 := Or.inr ⟨"StruckCounts", nw2 (i := 237) (by decide +kernel) rfl⟩
theorem lk_X11_372 : LK RX11 372 RX6 TX6 2 := Or.inr ⟨"StruckCounts", nw3 (i := 1) (by decide +kernel) rfl⟩
theorem lk_X11_377 : LK RX11 377 RX6 TX6 3 := Or.inr ⟨"StruckCounts", nw3 (i := 3) (by decide +kernel) rfl⟩
theorem lk_X11_385 : LK RX11 385 RX6 TX6 1 := Or.inr ⟨"StruckCounts", nw2 (i := 239) (by decide +kernel) rfl⟩
theorem lk_X11_398 : LK RX11 398 RX1 TX1 13 := Or.inr ⟨"StruckCounts", nw1 (i := 234) (by decide +kernel) rfl⟩
theorem lk_X11_403 : LK RX11 403 RX1 TX1 12 := Or.inr ⟨"StruckCounts", nw1 (i := 231) (by decide +kernel) rfl⟩
theorem lk_X11_410 : LK RX11 410 RX11 TX11 16 := Or.inl ⟨_, tb3 (i := 135) (by decide +kernel) rfl, Or.inl rfl⟩
theorem lk_X11_416 : LK RX11 416 RX1 TX1 5 := Or.inr ⟨"StruckCounts", nw1 (i := 212) (by decide +kernel) rfl⟩
theorem lk_X11_419 : LK RX11 419 RX5 TX5 9 := Or.inr ⟨"StruckCounts", nw2 (i := 70) (by decide +kernel) rfl⟩
theorem lk_X11_464 : LK RX11 464 RX9 TX9 4 := Or.inr ⟨"StruckCounts", nw2 (i := 194) (by decide +kernel) rfl⟩
theorem lk_X11_487 : LK RX11 487 RX1 TX1 16 := Or.inr ⟨"StruckCounts", nw2 (i := 2) (by decide +kernel) rfl⟩
theorem lk_X11_492 : LK RX11 492 RX1 TX1 2 := Or.inr ⟨"StruckCounts", nw1 (i := 205) (by decide +kernel) rfl⟩
theorem lk_X0_11 : LK RX0 11 RX0 TX0 0 := Or.inl ⟨_, tb2 (i := 160) (by decide +kernel) rfl, Or.inl rfl⟩
theorem lt_X0_11 : Cond.fieldLink RX0 11 (TX0 0).1 (TX0 0).2.1 (TX0 0).2.2.1 ∈ TB := tb2 (i := 160) (by decide +kernel) rfl
theorem lk_X0_17 : LK RX0 17 RX0 TX0 1 := Or.inl ⟨_, tb2 (i := 161) (by decide +kernel) rfl, Or.inl rfl⟩
theorem lt_X0_17 : Cond.fieldLink RX0 17 (TX0 1).1 (TX0 1).2.1 (TX0 1).2.2.1 ∈ TB := tb2 (i := 161) (by decide +kernel) rfl
theorem lk_X0_21 : LK RX0 21 RX0 TX0 4 := Or.inl ⟨_, tb2 (i := 164) (by decide +kernel) rfl, Or.inl rfl⟩
theorem lk_X0_25 : LK RX0 25 RX0 TX0 2 := Or.inl ⟨_, tb2 (i := 162) (by decide +kernel) rfl, Or.inl rfl⟩
theorem lk_X0_28 : LK RX0 28 RX0 TX0 3 := Or.inl ⟨_, tb2 (i := 163) (by decide +kernel) rfl, Or.inl rfl⟩
theorem lk_X1_11 : LK RX1 11 RX1 TX1 6 := Or.inl ⟨_, tb1 (i := 213) (by decide +kernel) rfl, Or.inl rfl⟩
theorem lt_X1_11 : Cond.fieldLink RX1 11 (TX1 6).1 (TX1 6).2.1 (TX1 6).2.2.1 ∈ TB := tb1 (i := 213) (by decide +kernel) rfl
theorem lk_X1_15 : LK RX1 15 RX1 TX1 7 := Or.inl ⟨_, tb1 (i := 216) (by decide +kernel) rfl, Or.inl rfl⟩
theorem lt_X1_15 : Cond.fieldLink RX1 15 (TX1 7).1 (TX1 7).2.1 (TX1 7).2.2.1 ∈ TB := tb1 (i := 216) (by decide +kernel) rfl
theorem lk_X1_18 : LK RX1 18 RX1 TX1 8 := Or.inl ⟨_, tb1 (i := 218) (by decide +kernel) rfl, Or.inl rfl⟩
theorem lt_X1_18 : Cond.fieldLink RX1 18 (TX1 8).1 (TX1 8).2.1 (TX1 8).2.2.1 ∈ TB := tb1 (i := 218) (by decide +kernel) rfl
theorem lk_X1_21 : LK RX1 21 RX1 TX1 9 := Or.inl ⟨_, tb1 (i := 221) (by decide +kernel) rfl, Or.inl rfl⟩
theorem lt_X1_21 : Cond.fieldLink RX1 21 (TX1 9).1 (TX1 9).2.1 (TX1 9).2.2.1 ∈ TB := tb1 (i := 221) (by decide +kernel) rfl
theorem lk_X1_24 : LK RX1 24 RX1 TX1 10 := Or.inl ⟨_, tb1 (i := 223) (by decide +kernel) rfl, Or.inl rfl⟩
theorem lt_X1_24 : Cond.fieldLink RX1 24 (TX1 10).1 (TX1 10).2.1 (TX1 10).2.2.1 ∈ TB := tb1 (i := 223) (by decide +kernel) rfl
theorem lk_X1_27 : LK RX1 27 RX1 TX1 11 := Or.inl ⟨_, tb1 (i := 225) (by decide +kernel) rfl, Or.inl rfl⟩
theorem lt_X1_27 : Cond.fieldLink RX1 27 (TX1 11).1 (TX1 11).2.1 (TX1 11).2.2.1 ∈ TB := tb1 (i := 225) (by decide +kernel) rfl
theorem lk_X1_30 : LK RX1 30 RX1 TX1 12 := Or.inl ⟨_, tb1 (i := 228) (by decide +kernel) rfl, Or.inl rfl⟩
theorem lt_X1_30 : Cond.fieldLink RX1 30 (TX1 12).1 (TX1 12).2.1 (TX1 12).2.2.1 ∈ TB := tb1 (i := 228) (by decide +kernel) rfl
theorem lk_X1_33 : LK RX1 33 RX1 TX1 14 := Or.inl ⟨_, tb1 (i := 235) (by decide +kernel) rfl, Or.inl rfl⟩
theorem lt_X1_33 : Cond.fieldLink RX1 33 (TX1 14).1 (TX1 14).2.1 (TX1 14).2.2.1 ∈ TB := tb1 (i := 235) (by decide +kernel) rfl
theorem lk_X1_36 : LK RX1 36 RX1 TX1 15 := Or.inl ⟨_, tb1 (i := 238) (by decide +kernel) rfl, Or.inl rfl⟩
theorem lt_X1_36 : Cond.fieldLink RX1 36 (TX1 15).1 (TX1 15).2.1 (TX1 15).2.2.1 ∈ TB := tb1 (i := 238) (by decide +kernel) rfl
theorem lk_X1_39 : LK RX1 39 RX1 TX1 16 := Or.inl ⟨_, tb2 (i := 1) (by decide +kernel) rfl, Or.inl rfl⟩
theorem lt_X1_39 : Cond.fieldLink RX1 39 (TX1 16).1 (TX1 16).2.1 (TX1 16).2.2.1 ∈ TB := tb2 (i := 1) (by decide +kernel) rfl
theorem lk_X1_45 : LK RX1 45 RX1 TX1 17 := Or.inl ⟨_, tb2 (i := 3) (by decide +kernel) rfl, Or.inl rfl⟩
theorem lt_X1_45 : Cond.fieldLink RX1 45 (TX1 17).1 (TX1 17).2.1 (TX1 17).2.2.1 ∈ TB := tb2 (i := 3) (by decide +kernel) rfl
theorem lk_X1_49 : LK RX1 49 RX1 TX1 18 := Or.inl ⟨_, tb2 (i := 6) (by decide +kernel) rfl, Or.inl rfl⟩
theorem lt_X1_49 : Cond.fieldLink RX1 49 (TX1 18).1 (TX1 18).2.1 (TX1 18).2.2.1 ∈ TB := tb2 (i := 6) (by decide +kernel) rfl
theorem lk_X1_53 : LK RX1 53 RX1 TX1 19 := Or.inl ⟨_, tb2 (i := 7) (by decide +kernel) rfl, Or.inl rfl⟩
theorem lt_X1_53 : Cond.fieldLink RX1 53 (TX1 19).1 (TX1 19).2.1 (TX1 19).2.2.1 ∈ TB := tb2 (i := 7) (by decide +kernel) rfl
theorem lk_X1_56 : LK RX1 56 RX1 TX1 0 := Or.inl ⟨_, tb1 (i := 197) (by decide +kernel) rfl, Or.inl rfl⟩
theorem lk_X1_60 : LK RX1 60 RX1 TX1 1 := Or.inl ⟨_, tb1 (i := 200) (by decide +kernel) rfl, Or.inl rfl⟩
theorem lk_X1_63 : LK RX1 63 RX1 TX1 2 := Or.inl ⟨_, tb1 (i := 203) (by decide +kernel) rfl, Or.inl rfl⟩
theorem lk_X1_66 : LK RX1 66 RX1 TX1 3 := Or.inl ⟨_, tb1 (i := 206) (by decide +kernel) rfl, Or.inl rfl⟩
theorem lk_X1_69 : LK RX1 69 RX1 TX1 4 := Or.inl ⟨_, tb1 (i := 208) (by decide +kernel) rfl, Or.inl rfl⟩
theorem lk_X1_72 : LK RX1 72 RX1 TX1 5 := Or.inl ⟨_, tb1 (i := 210) (by decide +kernel) rfl, Or.inl rfl⟩
theorem lk_X1_75 : LK RX1 75 RX1 TX1 13 := Or.inl ⟨_, tb1 (i := 232) (by decide +kernel) rfl, Or.inl rfl⟩
theorem lk_X2_12 : LK RX2 12 RX2 TX2 2 := Or.inl ⟨_, tb2 (i := 123) (by decide +kernel) rfl, Or.inl rfl⟩
theorem lt_X2_12 : Cond.fieldLink RX2 12 (TX2 2).1 (TX2 2).2.1 (TX2 2).2.2.1 ∈ TB := tb2 (i := 123) (by decide +kernel) rfl
theorem lk_X2_18 : LK RX2 18 RX2 TX2 0 := Or.inl ⟨_, tb2 (i := 121) (by decide +kernel) rfl, Or.inl rfl⟩
theorem lt_X2_18 : Cond.fieldLink RX2 18 (TX2 0).1 (TX2 0).2.1 (TX2 0).2.2.1 ∈ TB := tb2 (i := 121) (by decide +kernel) rfl
theorem lk_X2_22 : LK RX2 22 RX2 TX2 1 := Or.inl ⟨_, tb2 (i := 122) (by decide +kernel) rfl, Or.inl rfl⟩
theorem lt_X2_22 : Cond.fieldLink RX2 22 (TX2 1).1 (TX2 1).2.1 (TX2 1).2.2.1 ∈ TB := tb2 (i := 122) (by decide +kernel) rfl
theorem lk_X2_26 : LK RX2 26 RX2 TX2 3 := Or.inl ⟨_, tb2 (i := 124) (by decide +kernel) rfl, Or.inl rfl⟩
theorem lk_X2_30 : LK RX2 30 RX2 TX2 4 := Or.inl ⟨_, tb2 (i := 125) (by decide +kernel) rfl, Or.inl rfl⟩
theorem lk_X2_54 : LK RX2 54 RX1 TX1 0 := Or.inr ⟨"StruckCounts", nw1 (i := 198) (by decide +kernel) rfl⟩
theorem lk_X2_65 : LK RX2 65 RX2 TX2 5 := Or.inl ⟨_, tb2 (i := 126) (by decide +kernel) rfl, Or.inl rfl⟩
theorem lk_X2_68 : LK RX2 68 RX2 TX2 7 := Or.inl ⟨_, tb2 (i := 128) (by decide +kernel) rfl, Or.inl rfl⟩
theorem lk_X2_95 : LK RX2 95 RX1 TX1 1 := Or.inr ⟨"StruckCounts", nw1 (i := 201) (by decide +kernel) rfl⟩
theorem lk_X2_101 : LK RX2 101 RX2 TX2 6 := Or.inl ⟨_, tb2 (i := 127) (by decide +kernel) rfl, Or.inl rfl⟩
theorem lk_X2_108 : LK RX2 108 RX1 TX1 7 := Or.inr ⟨"StruckCounts", nw1 (i := 217) (by decide +kernel) rfl⟩
theorem lk_X2_116 : LK RX2 116 RX1 TX1 6 := Or.inr ⟨"StruckCounts", nw1 (i := 215) (by decide +kernel) rfl⟩
theorem lk_X2_119 : LK RX2 119 RX1 TX1 3 := Or.inr ⟨"StruckCounts", nw1 (i := 207) (by decide +kernel) rfl⟩
theorem lk_X2_122 : LK RX2 122 RX1 TX1 13 := Or.inr ⟨"StruckCounts", nw1 (i := 233) (by decide +kernel) rfl⟩
theorem lk_X2_125 : LK RX2 125 RX1 TX1 12 := Or.inr ⟨"StruckCounts", nw1 (i := 230) (by decide +kernel) rfl⟩
theorem lk_X2_134 : LK RX2 134 RX1 TX1 17 := Or.inr ⟨"StruckCounts", nw2 (i := 4) (by decide +kernel) rfl⟩
theorem lk_X2_144 : LK RX2 144 RX1 TX1 2 := Or.inr ⟨"StruckCounts", nw1 (i := 204) (by decide +kernel) rfl⟩
theorem lk_X2_154 : LK RX2 154 RX1 TX1 8 := Or.inr ⟨"StruckCounts", nw1 (i := 220) (by decide +kernel) rfl⟩
theorem lk_X2_157 : LK RX2 157 RX1 TX1 11 := Or.inr ⟨"StruckCounts", nw1 (i := 227) (by decide +kernel) rfl⟩
theorem lk_X2_164 : LK RX2 164 RX1 TX1 4 := Or.inr ⟨"StruckCounts", nw1 (i := 209) (by decide +kernel) rfl⟩
theorem lk_X2_170 : LK RX2 170 RX1 TX1 9 := Or.inr ⟨"StruckCounts", nw1 (i := 222) (by decide +kernel) rfl⟩
theorem lk_X2_176 : LK RX2 176 RX5 TX5 13 := Or.inr ⟨"StruckCounts", nw2 (i := 79) (by decide +kernel) rfl⟩
theorem lk_X2_190 : LK RX2 190 RX1 TX1 10 := Or.inr ⟨"StruckCounts", nw1 (i := 224) (by decide +kernel) rfl⟩
theorem lk_X2_197 : LK RX2 197 RX1 TX1 5 := Or.inr ⟨"StruckCounts", nw1 (i := 211) (by decide +kernel) rfl⟩
theorem lk_X2_200 : LK RX2 200 RX1 TX1 14 := Or.inr ⟨"StruckCounts", nw1 (i := 237) (by decide +kernel) rfl⟩
theorem lk_X2_203 : LK RX2 203 RX1 TX1 15 := Or.inr ⟨"StruckCounts", nw2 (i := 0) (by decide +kernel) rfl⟩
theorem lk_X2_232 : LK RX2 232 RX8 TX8 0 := Or.inr ⟨"StruckCounts", nw1 (i := 131) (by decide +kernel) rfl⟩
theorem lk_X2_237 : LK RX2 237 RX8 TX8 2 := Or.inr ⟨"StruckCounts", nw1 (i := 135) (by decide +kernel) rfl⟩
theorem lk_X2_240 : LK RX2 240 RX8 TX8 1 := Or.inr ⟨"StruckCounts", nw1 (i := 133) (by decide +kernel) rfl⟩
theorem lk_X2_243 : LK RX2 243 RX2 TX2 8 := Or.inl ⟨_, tb2 (i := 131) (by decide +kernel) rfl, Or.inl rfl⟩
theorem lk_X3_9 : LK RX3 9 RX3 TX3 0 := Or.inl ⟨_, tb2 (i := 212) (by decide +kernel) rfl, Or.inl rfl⟩
theorem lk_X3_15 : LK RX3 15 RX3 TX3 1 := Or.inl ⟨_, tb2 (i := 213) (by decide +kernel) rfl, Or.inl rfl⟩
theorem lk_X3_18 : LK RX3 18 RX3 TX3 2 := Or.inl ⟨_, tb2 (i := 214) (by decide +kernel) rfl, Or.inl rfl⟩
theorem lk_X3_21 : LK RX3 21 RX3 TX3 3 := Or.inl ⟨_, tb2 (i := 216) (by decide +kernel) rfl, Or.inl rfl⟩
theorem lk_X3_24 : LK RX3 24 RX3 TX3 4 := Or.inl ⟨_, tb2 (i := 218) (by decide +kernel) rfl, Or.inl rfl⟩
theorem lk_X4_11 : LK RX4 11 RX4 TX4 0 := Or.inl ⟨_, tb1 (i := 156) (by decide +kernel) rfl, Or.inl rfl⟩
theorem lt_X4_11 : Cond.fieldLink RX4 11 (TX4 0).1 (TX4 0).2.1 (TX4 0).2.2.1 ∈ TB := tb1 (i := 156) (by decide +kernel) rfl
theorem lk_X4_15 : LK RX4 15 RX4 TX4 1 := Or.inl ⟨_, tb1 (i := 157) (by decide +kernel) rfl, Or.inl rfl⟩
theorem lt_X4_15 : Cond.fieldLink RX4 15 (TX4 1).1 (TX4 1).2.1 (TX4 1).2.2.1 ∈ TB := tb1 (i := 157) (by decide +kernel) rfl
theorem lk_X4_18 : LK RX4 18 RX4 TX4 2 := Or.inl ⟨_, tb1 (i := 158) (by decide +kernel) rfl, Or.inl rfl⟩
theorem lt_X4_18 : Cond.fieldLink RX4 18 (TX4 2).1 (TX4 2).2.1 (TX4 2).2.2.1 ∈ TB := tb1 (i := 158) (by decide +kernel) rfl
theorem lk_X4_21 : LK RX4 21 RX4 TX4 4 := Or.inl ⟨_, tb1 (i := 160) (by decide +kernel) rfl, Or.inl rfl⟩
theorem lk_X4_29 : LK RX4 29 RX10 TX10 0 := Or.inr ⟨"StruckCounts", nw1 (i := 192) (by decide +kernel) rfl⟩
theorem lk_X4_42 : LK RX4 42 RX4 TX4 5 := Or.inl ⟨_, tb1 (i := 161) (by decide +kernel) rfl, Or.inl rfl⟩
theorem lk_X4_45 : LK RX4 45 RX4 TX4 6 := Or.inl ⟨_, tb1 (i := 162) (by decide +kernel) rfl, Or.inl rfl⟩
theorem lk_X4_48 : LK RX4 48 RX1 TX1 12 := Or.inr ⟨"StruckCounts", nw1 (i := 229) (by decide +kernel) rfl⟩
theorem lk_X4_54 : LK RX4 54 RX1 TX1 14 := Or.inr ⟨"StruckCounts", nw1 (i := 236) (by decide +kernel) rfl⟩
theorem lk_X4_61 : LK RX4 61 RX1 TX1 15 := Or.inr ⟨"StruckCounts", nw1 (i := 239) (by decide +kernel) rfl⟩
theorem lk_X4_64 : LK RX4 64 RX4 TX4 3 := Or.inl ⟨_, tb1 (i := 159) (by decide +kernel) rfl, Or.inl rfl⟩
theorem lk_X5_9 : LK RX5 9 RX5 TX5 9 := Or.inl ⟨_, tb2 (i := 69) (by decide +kernel) rfl, Or.inl rfl⟩
theorem lt_X5_9 : Cond.fieldLink RX5 9 (TX5 9).1 (TX5 9).2.1 (TX5 9).2.2.1 ∈ TB := tb2 (i := 69) (by decide +kernel) rfl
theorem lk_X5_15 : LK RX5 15 RX5 TX5 10 := Or.inl ⟨_, tb2 (i := 71) (by decide +kernel) rfl, Or.inl rfl⟩
theorem lt_X5_15 : Cond.fieldLink RX5 15 (TX5 10).1 (TX5 10).2.1 (TX5 10).2.2.1 ∈ TB := tb2 (i := 71) (by decide +kernel) rfl
theorem lk_X5_18 : LK RX5 18 RX5 TX5 11 := Or.inl ⟨_, tb2 (i := 73) (by decide +kernel) rfl, Or.inl rfl⟩
theorem lt_X5_18 : Cond.fieldLink RX5 18 (TX5 11).1 (TX5 11).2.1 (TX5 11).2.2.1 ∈ TB := tb2 (i := 73) (by decide +kernel) rfl
theorem lk_X5_21 : LK RX5 21 RX5 TX5 12 := Or.inl ⟨_, tb2 (i := 75) (by decide +kernel) rfl, Or.inl rfl⟩
theorem lt_X5_21 : Cond.fieldLink RX5 21 (TX5 12).1 (TX5 12).2.1 (TX5 12).2.2.1 ∈ TB := tb2 (i := 75) (by decide +kernel) rfl
theorem lk_X5_24 : LK RX5 24 RX5 TX5 13 := Or.inl ⟨_, tb2 (i := 77) (by decide +kernel) rfl, Or.inl rfl⟩
theorem lt_X5_24 : Cond.fieldLink RX5 24 (TX5 13).1 (TX5 13).2.1 (TX5 13).2.2.1 ∈ TB := tb2 (i := 77) (by decide +kernel) rfl
theorem lk_X5_27 : LK RX5 27 RX5 TX5 14 := Or.inl ⟨_, tb2 (i := 80) (by decide +kernel) rfl, Or.inl rfl⟩
theorem lt_X5_27 : Cond.fieldLink RX5 27 (TX5 14).1 (TX5 14).2.1 (TX5 14).2.2.1 ∈ TB := tb2 (i := 80) (by decide +kernel) rfl
theorem lk_X5_30 : LK RX5 30 RX5 TX5 0 := Or.inl ⟨_, tb2 (i := 55) (by decide +kernel) rfl, Or.inl rfl⟩
theorem lk_X5_34 : LK RX5 34 RX5 TX5 1 := Or.inl ⟨_, tb2 (i := 57) (by decide +kernel) rfl, Or.inl rfl⟩
theorem lk_X5_38 : LK RX5 38 RX5 TX5 2 := Or.inl ⟨_, tb2 (i := 59) (by decide +kernel) rfl, Or.inl rfl⟩
theorem lk_X5_41 : LK RX5 41 RX5 TX5 3 := Or.inl ⟨_, tb2 (i := 61) (by decide +kernel) rfl, Or.inl rfl⟩
theorem lk_X5_44 : LK RX5 44 RX5 TX5 4 := Or.inl ⟨_, tb2 (i := 63) (by decide +kernel) rfl, Or.inl rfl⟩
theorem lk_X5_47 : LK RX5 47 RX5 TX5 5 := Or.inl ⟨_, tb2 (i := 64) (by decide +kernel) rfl, Or.inl rfl⟩
theorem lk_X5_50 : LK RX5 50 RX5 TX5 6 := Or.inl ⟨_, tb2 (i := 65) (by decide +kernel) rfl, Or.inl rfl⟩
theorem lk_X5_53 : LK RX5 53 RX5 TX5 7 := Or.inl ⟨_, tb2 (i := 66) (by decide +kernel) rfl, Or.inl rfl⟩
theorem lk_X5_56 : LK RX5 56 RX5 TX5 8 := Or.inl ⟨_, tb2 (i := 67) (by decide +kernel) rfl, Or.inl rfl⟩
theorem lk_X6_9 : LK RX6 9 RX6 TX6 0 := Or.inl ⟨_, tb2 (i := 236) (by decide +kernel) rfl, Or.inl rfl⟩
theorem lt_X6_9 : Cond.fieldLink RX6 9 (TX6 0).1 (TX6 0).2.1 (TX6 0).2.2.1 ∈ TB := tb2 (i := 236) (by decide +kernel) rfl
theorem lk_X6_15 : LK RX6 15 RX6 TX6 1 := Or.inl ⟨_, tb2 (i := 238) (by decide +kernel) rfl, Or.inl rfl⟩
theorem lt_X6_15 : Cond.fieldLink RX6 15 (TX6 1).1 (TX6 1).2.1 (TX6 1).2.2.1 ∈ TB := tb2 (i := 238) (by decide +kernel) rfl
theorem lk_X6_18 : LK RX6 18 RX6 TX6 2 := Or.inl ⟨_, tb3 (i := 0) (by decide +kernel) rfl, Or.inl rfl⟩
theorem lt_X6_18 : Cond.fieldLink RX6 18 (TX6 2).1 (TX6 2).2.1 (TX6 2).2.2.1 ∈ TB := tb3 (i := 0) (by decide +kernel) rfl
theorem lk_X6_21 : LK RX6 21 RX6 TX6 3 := Or.inl ⟨_, tb3 (i := 2) (by decide +kernel) rfl, Or.inl rfl⟩
theorem lt_X6_21 : Cond.fieldLink RX6 21 (TX6 3).1 (TX6 3).2.1 (TX6 3).2.2.1 ∈ TB := tb3 (i := 2) (by decide +kernel) rfl
theorem lk_X6_25 : LK RX6 25 RX6 TX6 4 := Or.inl ⟨_, tb3 (i := 4) (by decide +kernel) rfl, Or.inl rfl⟩
theorem lt_X6_25 : Cond.fieldLink RX6 25 (TX6 4).1 (TX6 4).2.1 (TX6 4).2.2.1 ∈ TB := tb3 (i := 4) (by decide +kernel) rfl
theorem lk_X6_28 : LK RX6 28 RX6 TX6 5 := Or.inl ⟨_, tb3 (i := 5) (by decide +kernel) rfl, Or.inl rfl⟩
theorem lk_X7_9 : LK RX7 9 RX7 TX7 0 := Or.inl ⟨_, tb1 (i := 56) (by decide +kernel) rfl, Or.inl rfl⟩
theorem lt_X7_9 : Cond.fieldLink RX7 9 (TX7 0).1 (TX7 0).2.1 (TX7 0).2.2.1 ∈ TB := tb1 (i := 56) (by decide +kernel) rfl
theorem lk_X7_15 : LK RX7 15 RX7 TX7 1 := Or.inl ⟨_, tb1 (i := 57) (by decide +kernel) rfl, Or.inl rfl⟩
theorem lk_X8_9 : LK RX8 9 RX8 TX8 0 := Or.inl ⟨_, tb1 (i := 130) (by decide +kernel) rfl, Or.inl rfl⟩
theorem lt_X8_9 : Cond.fieldLink RX8 9 (TX8 0).1 (TX8 0).2.1 (TX8 0).2.2.1 ∈ TB := tb1 (i := 130) (by decide +kernel) rfl
theorem lk_X8_15 : LK RX8 15 RX8 TX8 1 := Or.inl ⟨_, tb1 (i := 132) (by decide +kernel) rfl, Or.inl rfl⟩
theorem lt_X8_15 : Cond.fieldLink RX8 15 (TX8 1).1 (TX8 1).2.1 (TX8 1).2.2.1 ∈ TB := tb1 (i := 132) (by decide +kernel) rfl
theorem lk_X8_18 : LK RX8 18 RX8 TX8 2 := Or.inl ⟨_, tb1 (i := 134) (by decide +kernel) rfl, Or.inl rfl⟩
theorem lt_X8_18 : Cond.fieldLink RX8 18 (TX8 2).1 (TX8 2).2.1 (TX8 2).2.2.1 ∈ TB := tb1 (i := 134) (by decide +kernel) rfl
theorem lk_X8_21 : LK RX8 21 RX8 TX8 3 := Or.inl ⟨_, tb1 (i := 136) (by decide +kernel) rfl, Or.inl rfl⟩
theorem lt_X8_21 : Cond.fieldLink RX8 21 (TX8 3).1 (TX8 3).2.1 (TX8 3).2.2.1 ∈ TB := tb1 (i := 136) (by decide +kernel) rfl
theorem lk_X8_48 : LK RX8 48 RX8 TX8 4 := Or.inl ⟨_, tb1 (i := 137) (by decide +kernel) rfl, Or.inl rfl⟩
theorem lk_X8_52 : LK RX8 52 RX7 TX7 1 := Or.inr ⟨"StruckCounts", nw1 (i := 59) (by decide +kernel) rfl⟩
theorem lk_X9_9 : LK RX9 9 RX9 TX9 0 := Or.inl ⟨_, tb2 (i := 189) (by decide +kernel) rfl, Or.inl rfl⟩
theorem lt_X9_9 : Cond.fieldLink RX9 9 (TX9 0).1 (TX9 0).2.1 (TX9 0).2.2.1 ∈ TB := tb2 (i := 189) (by decide +kernel) rfl
theorem lk_X9_15 : LK RX9 15 RX9 TX9 1 := Or.inl ⟨_, tb2 (i := 190) (by decide +kernel) rfl, Or.inl rfl⟩
theorem lt_X9_15 : Cond.fieldLink RX9 15 (TX9 1).1 (TX9 1).2.1 (TX9 1).2.2.1 ∈ TB := tb2 (i := 190) (by decide +kernel) rfl
theorem lk_X9_18 : LK RX9 18 RX9 TX9 2 := Or.inl ⟨_, tb2 (i := 191) (by decide +kernel) rfl, Or.inl rfl⟩
theorem lt_X9_18 : Cond.fieldLink RX9 18 (TX9 2).1 (TX9 2).2.1 (TX9 2).2.2.1 ∈ TB := tb2 (i := 191) (by decide +kernel) rfl
theorem lk_X9_21 : LK RX9 21 RX9 TX9 3 := Or.inl ⟨_, tb2 (i := 192) (by decide +kernel) rfl, Or.inl rfl⟩
theorem lt_X9_21 : Cond.fieldLink RX9 21 (TX9 3).1 (TX9 3).2.1 (TX9 3).2.2.1 ∈ TB := tb2 (i := 192) (by decide +kernel) rfl
theorem lk_X9_36 : LK RX9 36 RX9 TX9 4 := Or.inl ⟨_, tb2 (i := 193) (by decide +kernel) rfl, Or.inl rfl⟩
theorem lk_X10_9 : LK RX10 9 RX10 TX10 0 := Or.inl ⟨_, tb1 (i := 191) (by decide +kernel) rfl, Or.inl rfl⟩
theorem lt_X10_9 : Cond.fieldLink RX10 9 (TX10 0).1 (TX10 0).2.1 (TX10 0).2.2.1 ∈ TB := tb1 (i := 191) (by decide +kernel) rfl
theorem lk_L_10 : LK RL 10 RL TL 0 := Or.inl ⟨_, tb3 (i := 205) (by decide +kernel) rfl, Or.inl rfl⟩
theorem lt_L_10 : Cond.fieldLink RL 10 (TL 0).1 (TL 0).2.1 (TL 0).2.2.1 ∈ TB := tb3 (i := 205) (by decide +kernel) rfl
theorem lk_L_16 : LK RL 16 RL TL 6 := Or.inl ⟨_, tb3 (i := 211) (by decide +kernel) rfl, Or.inl rfl⟩
theorem lt_L_16 : Cond.fieldLink RL 16 (TL 6).1 (TL 6).2.1 (TL 6).2.2.1 ∈ TB := tb3 (i := 211) (by decide +kernel) rfl
theorem lk_L_23 : LK RL 23 RL TL 7 := Or.inl ⟨_, tb3 (i := 212) (by decide +kernel) rfl, Or.inl rfl⟩
theorem lt_L_23 : Cond.fieldLink RL 23 (TL 7).1 (TL 7).2.1 (TL 7).2.2.1 ∈ TB := tb3 (i := 212) (by decide +kernel) rfl
theorem lk_L_29 : LK RL 29 RL TL 8 := Or.inl ⟨_, tb3 (i := 213) (by decide +kernel) rfl, Or.inl rfl⟩
theorem lt_L_29 : Cond.fieldLink RL 29 (TL 8).1 (TL 8).2.1 (TL 8).2.2.1 ∈ TB := tb3 (i := 213) (by decide +kernel) rfl
theorem lk_L_32 : LK RL 32 RL TL 11 := Or.inl ⟨_, tb3 (i := 216) (by decide +kernel) rfl, Or.inl rfl⟩
theorem lt_L_32 : Cond.fieldLink RL 32 (TL 11).1 (TL 11).2.1 (TL 11).2.2.1 ∈ TB := tb3 (i := 216) (by decide +kernel) rfl
theorem lk_L_37 : LK RL 37 RL TL 1 := Or.inl ⟨_, tb3 (i := 206) (by decide +kernel) rfl, Or.inl rfl⟩
theorem lk_L_40 : LK RL 40 RL TL 2 := Or.inl ⟨_, tb3 (i := 207) (by decide +kernel) rfl, Or.inl rfl⟩
theorem lk_L_87 : LK RL 87 RL TL 3 := Or.inl ⟨_, tb3 (i := 208) (by decide +kernel) rfl, Or.inl rfl⟩
theorem lk_L_109 : LK RL 109 RL TL 9 := Or.inl ⟨_, tb3 (i := 214) (by decide +kernel) rfl, Or.inl rfl⟩
theorem lk_L_147 : LK RL 147 RL TL 5 := Or.inl ⟨_, tb3 (i := 210) (by decide +kernel) rfl, Or.inl rfl⟩
theorem lk_L_153 : LK RL 153 RL TL 4 := Or.inl ⟨_, tb3 (i := 209) (by decide +kernel) rfl, Or.inl rfl⟩
theorem lk_L_160 : LK RL 160 RL TL 10 := Or.inl ⟨_, tb3 (i := 215) (by decide +kernel) rfl, Or.inl rfl⟩
theorem lk_L_218 : LK RL 218 RX12 TX12 2 := Or.inr ⟨"StruckCountsLaw", nw6 (i := 27) (by decide +kernel) rfl⟩
theorem lk_L_221 : LK RL 221 RX12 TX12 3 := Or.inr ⟨"StruckCountsLaw", nw6 (i := 28) (by decide +kernel) rfl⟩
theorem lk_L_224 : LK RL 224 RX12 TX12 7 := Or.inr ⟨"StruckCountsLaw", nw6 (i := 31) (by decide +kernel) rfl⟩
theorem lk_L_227 : LK RL 227 RX14 TX14 2 := Or.inr ⟨"StruckCountsLaw", nw4 (i := 183) (by decide +kernel) rfl⟩
theorem lk_L_230 : LK RL 230 RX12 TX12 5 := Or.inr ⟨"StruckCountsLaw", nw6 (i := 29) (by decide +kernel) rfl⟩
theorem lk_L_237 : LK RL 237 RX12 TX12 6 := Or.inr ⟨"StruckCountsLaw", nw6 (i := 30) (by decide +kernel) rfl⟩
theorem lk_X12_7 : LK RX12 7 RX12 TX12 0 := Or.inl ⟨_, tb6 (i := 25) (by decide +kernel) rfl, Or.inl rfl⟩
theorem lt_X12_7 : Cond.fieldLink RX12 7 (TX12 0).1 (TX12 0).2.1 (TX12 0).2.2.1 ∈ TB := tb6 (i := 25) (by decide +kernel) rfl
theorem lk_X12_13 : LK RX12 13 RX12 TX12 1 := Or.inl ⟨_, tb6 (i := 26) (by decide +kernel) rfl, Or.inl rfl⟩
theorem lt_X12_13 : Cond.fieldLink RX12 13 (TX12 1).1 (TX12 1).2.1 (TX12 1).2.2.1 ∈ TB := tb6 (i := 26) (by decide +kernel) rfl
theorem lk_X13_7 : LK RX13 7 RX13 TX13 0 := Or.inl ⟨_, tb5 (i := 77) (by decide +kernel) rfl, Or.inl rfl⟩
theorem lt_X13_7 : Cond.fieldLink RX13 7 (TX13 0).1 (TX13 0).2.1 (TX13 0).2.2.1 ∈ TB := tb5 (i := 77) (by decide +kernel) rfl
theorem lk_X13_13 : LK RX13 13 RX13 TX13 1 := Or.inl ⟨_, tb5 (i := 78) (by decide +kernel) rfl, Or.inl rfl⟩
theorem lt_X13_13 : Cond.fieldLink RX13 13 (TX13 1).1 (TX13 1).2.1 (TX13 1).2.2.1 ∈ TB := tb5 (i := 78) (by decide +kernel) rfl
theorem lk_X13_16 : LK RX13 16 RX13 TX13 2 := Or.inl ⟨_, tb5 (i := 79) (by decide +kernel) rfl, Or.inl rfl⟩
theorem lt_X13_16 : Cond.fieldLink RX13 16 (TX13 2).1 (TX13 2).2.1 (TX13 2).2.2.1 ∈ TB := tb5 (i := 79) (by decide +kernel) rfl
theorem lk_X14_7 : LK RX14 7 RX14 TX14 0 := Or.inl ⟨_, tb4 (i := 180) (by decide +kernel) rfl, Or.inl rfl⟩
theorem lt_X14_7 : Cond.fieldLink RX14 7 (TX14 0).1 (TX14 0).2.1 (TX14 0).2.2.1 ∈ TB := tb4 (i := 180) (by decide +kernel) rfl
theorem lk_X14_13 : LK RX14 13 RX14 TX14 1 := Or.inl ⟨_, tb4 (i := 181) (by decide +kernel) rfl, Or.inl rfl⟩
theorem lt_X14_13 : Cond.fieldLink RX14 13 (TX14 1).1 (TX14 1).2.1 (TX14 1).2.2.1 ∈ TB := tb4 (i := 181) (by decide +kernel) rfl
theorem lk_X14_19 : LK RX14 19 RX14 TX14 2 := Or.inl ⟨_, tb4 (i := 182) (by decide +kernel) rfl, Or.inl rfl⟩
theorem lt_X14_19 : Cond.fieldLink RX14 19 (TX14 2).1 (TX14 2).2.1 (TX14 2).2.2.1 ∈ TB := tb4 (i := 182) (by decide +kernel) rfl
theorem lk_J5_15 : LK RJ5 15 RJ4 TJ4 0 := Or.inl ⟨_, tb4 (i := 156) (by decide +kernel) rfl, Or.inl rfl⟩
theorem lk_J5_22 : LK RJ5 22 RJ4 TJ4 1 := Or.inl ⟨_, tb4 (i := 157) (by decide +kernel) rfl, Or.inl rfl⟩
theorem lk_J5_79 : LK RJ5 79 RJ4 TJ4 3 := Or.inl ⟨_, tb4 (i := 159) (by decide +kernel) rfl, Or.inl rfl⟩
theorem lk_J0_9 : LK RJ0 9 RJ0 TJ0 0 := Or.inl ⟨_, tb5 (i := 25) (by decide +kernel) rfl, Or.inl rfl⟩
theorem lt_J0_9 : Cond.fieldLink RJ0 9 (TJ0 0).1 (TJ0 0).2.1 (TJ0 0).2.2.1 ∈ TB := tb5 (i := 25) (by decide +kernel) rfl
theorem lk_J0_15 : LK RJ0 15 RJ0 TJ0 1 := Or.inl ⟨_, tb5 (i := 26) (by decide +kernel) rfl, Or.inl rfl⟩
theorem lt_J0_15 : Cond.fieldLink RJ0 15 (TJ0 1).1 (TJ0 1).2.1 (TJ0 1).2.2.1 ∈ TB := tb5 (i := 26) (by decide +kernel) rfl
theorem lk_J0_1048 : LK RJ0 1048 RJ4 TJ4 2 := Or.inl ⟨_, tb4 (i := 158) (by decide +kernel) rfl, Or.inl rfl⟩
theorem lk_Jxc12de_7 : LK RJxc12de 7 RJx4a65c TJx4a65c 0 := Or.inl ⟨_, tb3 (i := 192) (by decide +kernel) rfl, Or.inl rfl⟩
theorem lk_Jx4a65c_9 : LK RJx4a65c 9 RJx4a65c TJx4a65c 1 := Or.inl ⟨_, tb3 (i := 188) (by decide +kernel) rfl, Or.inl rfl⟩
theorem lk_Jx4a65c_48 : LK RJx4a65c 48 RJx4a65c TJx4a65c 2 := Or.inl ⟨_, tb3 (i := 191) (by decide +kernel) rfl, Or.inl rfl⟩
theorem lk_Jx4a65c_63 : LK RJx4a65c 63 RJx4a65c TJx4a65c 0 := Or.inl ⟨_, tb3 (i := 195) rfl rfl, Or.inr (tb3 (i := 194) rfl rfl)⟩
theorem lk_Jx35411_1 : LK RJx35411 1 RJx35411 TJx35411 3 := Or.inl ⟨_, tb5 (i := 161) (by decide +kernel) rfl, Or.inl rfl⟩
theorem lt_Jx35411_1 : Cond.fieldLink RJx35411 1 (TJx35411 3).1 (TJx35411 3).2.1 (TJx35411 3).2.2.1 ∈ TB := tb5 (i := 161) (by decide +kernel) rfl
theorem lk_Jx35411_13 : LK RJx35411 13 RJx35411 TJx35411 1 := Or.inl ⟨_, tb5 (i := 159) (by decide +kernel) rfl, Or.inl rfl⟩
theorem lk_Jx35411_17 : LK RJx35411 17 RJx4a65c TJx4a65c 0 := Or.inl ⟨_, tb3 (i := 193) rfl rfl, Or.inr (tb3 (i := 194) rfl rfl)⟩
theorem lk_Jx35411_22 : LK RJx35411 22 RJx35411 TJx35411 2 := Or.inl ⟨_, tb5 (i := 160) (by decide +kernel) rfl, Or.inl rfl⟩
theorem lk_Jx35411_25 : LK RJx35411 25 RJx35411 TJx35411 0 := Or.inl ⟨_, tb5 (i := 158) (by decide +kernel) rfl, Or.inl rfl⟩
theorem lk_Jx35411_28 : LK RJx35411 28 RJx4a65c TJx4a65c 2 := Or.inr ⟨"java/util/ArrayList", nw3 (i := 190) (by decide +kernel) rfl⟩
theorem lk_Jx35411_37 : LK RJx35411 37 RJx4a65c TJx4a65c 1 := Or.inl ⟨_, tb3 (i := 189) (by decide +kernel) rfl, Or.inl rfl⟩
theorem lm_X11_9 : LM RX11 9 mi_X7_init := Or.inr ⟨"StruckCounts", nw1 (i := 52) (by decide +kernel) rfl⟩
theorem lm_X11_18 : LM RX11 18 mi_X8_init := Or.inr ⟨"StruckCounts", nw1 (i := 68) (by decide +kernel) rfl⟩
theorem lm_X11_25 : LM RX11 25 mi_X4_init := Or.inr ⟨"StruckCounts", nw1 (i := 152) (by decide +kernel) rfl⟩
theorem lm_X11_32 : LM RX11 32 mi_X1_init := Or.inr ⟨"StruckCounts", nw1 (i := 181) (by decide +kernel) rfl⟩
theorem lm_X11_42 : LM RX11 42 mi_X5_init := Or.inr ⟨"StruckCounts", nw2 (i := 51) (by decide +kernel) rfl⟩
theorem lm_X11_52 : LM RX11 52 mi_X2_init := Or.inr ⟨"StruckCounts", nw2 (i := 115) (by decide +kernel) rfl⟩
theorem lm_X11_61 : LM RX11 61 mi_X0_init := Or.inr ⟨"StruckCounts", nw2 (i := 153) (by decide +kernel) rfl⟩
theorem lm_X11_68 : LM RX11 68 mi_X10_init := Or.inr ⟨"StruckCounts", nw2 (i := 178) (by decide +kernel) rfl⟩
theorem lm_X11_81 : LM RX11 81 mi_X9_init := Or.inr ⟨"StruckCounts", nw2 (i := 181) (by decide +kernel) rfl⟩
theorem lm_X11_88 : LM RX11 88 mi_X3_init := Or.inr ⟨"StruckCounts", nw2 (i := 208) (by decide +kernel) rfl⟩
theorem lm_X11_95 : LM RX11 95 mi_X6_init := Or.inr ⟨"StruckCounts", nw2 (i := 232) (by decide +kernel) rfl⟩
theorem lm_X11_104 : LM RX11 104 mi_X1_clear := Or.inr ⟨"StruckCounts", nw3 (i := 20) (by decide +kernel) rfl⟩
theorem lm_X11_107 : LM RX11 107 mi_X1_finish := Or.inr ⟨"StruckCounts", nw3 (i := 32) (by decide +kernel) rfl⟩
theorem lm_X11_111 : LM RX11 111 mi_X7_take := Or.inr ⟨"StruckCounts", nw6 (i := 71) (by decide +kernel) rfl⟩
theorem lm_X11_119 : LM RX11 119 mi_X7_cut := Or.inr ⟨"StruckCounts", nw6 (i := 62) (by decide +kernel) rfl⟩
theorem lm_X11_122 : LM RX11 122 mi_X8_split := Or.inr ⟨"StruckCounts", nw6 (i := 80) (by decide +kernel) rfl⟩
theorem lm_X11_126 : LM RX11 126 mi_X2_readSuit := Or.inr ⟨"StruckCounts", nw6 (i := 156) (by decide +kernel) rfl⟩
theorem lm_X11_130 : LM RX11 130 mi_X0_forget := Or.inr ⟨"StruckCounts", nw7 (i := 64) (by decide +kernel) rfl⟩
theorem lm_X11_146 : LM RX11 146 mi_X11_isFact := Or.inl (tb7 (i := 201) (by decide +kernel) rfl)
theorem lm_X11_152 : LM RX11 152 mi_X11_at := Or.inl (tb7 (i := 102) (by decide +kernel) rfl)
theorem lm_X11_156 : LM RX11 156 mi_X5_howIs := Or.inr ⟨"StruckCounts", nw7 (i := 205) (by decide +kernel) rfl⟩
theorem lm_X11_160 : LM RX11 160 mi_X5_known := Or.inr ⟨"StruckCounts", nw7 (i := 84) (by decide +kernel) rfl⟩
theorem lm_X11_164 : LM RX11 164 mi_X11_has := Or.inl (tb7 (i := 97) (by decide +kernel) rfl)
theorem lm_X11_171 : LM RX11 171 mi_X5_sayers := Or.inr ⟨"StruckCounts", nw7 (i := 210) (by decide +kernel) rfl⟩
theorem lm_X11_174 : LM RX11 174 mi_X11_isCount := Or.inl (tb7 (i := 222) (by decide +kernel) rfl)
theorem lm_X11_186 : LM RX11 186 mi_X11_age := Or.inl (tb7 (i := 128) (by decide +kernel) rfl)
theorem lm_X11_192 : LM RX11 192 mi_X11_kind := Or.inl (tb7 (i := 104) (by decide +kernel) rfl)
theorem lm_X11_195 : LM RX11 195 mi_X1_pleasOf := Or.inr ⟨"StruckCounts", nw7 (i := 226) (by decide +kernel) rfl⟩
theorem lm_X11_204 : LM RX11 204 mi_X11_remember := Or.inl (tb7 (i := 76) (by decide +kernel) rfl)
theorem lm_X11_207 : LM RX11 207 mi_X11_failing := Or.inl (tb7 (i := 93) (by decide +kernel) rfl)
theorem lm_X11_213 : LM RX11 213 mi_X11_needSlot := Or.inl (tb7 (i := 234) (by decide +kernel) rfl)
theorem lm_X11_217 : LM RX11 217 mi_X11_shown := Or.inl (tb7 (i := 235) (by decide +kernel) rfl)
theorem lm_X11_228 : LM RX11 228 mi_X11_leaves := Or.inl (tb8 (i := 37) (by decide +kernel) rfl)
theorem lm_X11_232 : LM RX11 232 mi_X0_note := Or.inr ⟨"StruckCounts", nw8 (i := 41) (by decide +kernel) rfl⟩
theorem lm_X11_236 : LM RX11 236 mi_X5_become := Or.inr ⟨"StruckCounts", nw8 (i := 53) (by decide +kernel) rfl⟩
theorem lm_X11_240 : LM RX11 240 mi_X5_answered := Or.inr ⟨"StruckCounts", nw8 (i := 57) (by decide +kernel) rfl⟩
theorem lm_X11_246 : LM RX11 246 mi_X11_bySilence := Or.inl (tb8 (i := 70) (by decide +kernel) rfl)
theorem lm_X11_249 : LM RX11 249 mi_X11_unknown := Or.inl (tb8 (i := 82) (by decide +kernel) rfl)
theorem lm_X11_252 : LM RX11 252 mi_J6_bitCount_0f7a4 := Or.inl (tb7 (i := 140) (by decide +kernel) rfl)
theorem lm_X11_260 : LM RX11 260 mi_X5_tell := Or.inr ⟨"StruckCounts", nw8 (i := 90) (by decide +kernel) rfl⟩
theorem lm_X11_267 : LM RX11 267 mi_X5_file := Or.inr ⟨"StruckCounts", nw8 (i := 103) (by decide +kernel) rfl⟩
theorem lm_X11_273 : LM RX11 273 mi_X0_takeBack := Or.inr ⟨"StruckCounts", nw8 (i := 113) (by decide +kernel) rfl⟩
theorem lm_X11_280 : LM RX11 280 mi_X0_store := Or.inr ⟨"StruckCounts", nw8 (i := 121) (by decide +kernel) rfl⟩
theorem lm_X11_284 : LM RX11 284 mi_X0_restore := Or.inr ⟨"StruckCounts", nw9 (i := 108) (by decide +kernel) rfl⟩
theorem lm_X11_290 : LM RX11 290 mi_X10_size := Or.inr ⟨"StruckCounts", nw7 (i := 160) (by decide +kernel) rfl⟩
theorem lm_X11_292 : LM RX11 292 mi_X11_allege := Or.inl (tb7 (i := 98) (by decide +kernel) rfl)
theorem lm_X11_296 : LM RX11 296 mi_X10_agree := Or.inr ⟨"StruckCounts", nw7 (i := 88) (by decide +kernel) rfl⟩
theorem lm_X11_300 : LM RX11 300 mi_X10_isEmpty := Or.inr ⟨"StruckCounts", nw7 (i := 103) (by decide +kernel) rfl⟩
theorem lm_X11_304 : LM RX11 304 mi_X1_wonBy := Or.inr ⟨"StruckCounts", nw7 (i := 182) (by decide +kernel) rfl⟩
theorem lm_X11_308 : LM RX11 308 mi_X10_and := Or.inr ⟨"StruckCounts", nw8 (i := 25) (by decide +kernel) rfl⟩
theorem lm_X11_312 : LM RX11 312 mi_X10_within := Or.inr ⟨"StruckCounts", nw8 (i := 5) (by decide +kernel) rfl⟩
theorem lm_X11_316 : LM RX11 316 mi_X11_findLack := Or.inl (tb9 (i := 53) (by decide +kernel) rfl)
theorem lm_X11_325 : LM RX11 325 mi_X10_holds := Or.inr ⟨"StruckCounts", nw7 (i := 174) (by decide +kernel) rfl⟩
theorem lm_X11_328 : LM RX11 328 mi_X11_turningFacts := Or.inl (tb8 (i := 181) (by decide +kernel) rfl)
theorem lm_X11_332 : LM RX11 332 mi_X10_howIn := Or.inr ⟨"StruckCounts", nw8 (i := 6) (by decide +kernel) rfl⟩
theorem lm_X11_336 : LM RX11 336 mi_X11_growTrial := Or.inl (tb8 (i := 133) (by decide +kernel) rfl)
theorem lm_X11_339 : LM RX11 339 mi_X9_countTrials := Or.inr ⟨"StruckCounts", nw8 (i := 153) (by decide +kernel) rfl⟩
theorem lm_X11_342 : LM RX11 342 mi_X9_value := Or.inr ⟨"StruckCounts", nw8 (i := 168) (by decide +kernel) rfl⟩
theorem lm_X11_345 : LM RX11 345 mi_X9_firstTrial := Or.inr ⟨"StruckCounts", nw8 (i := 172) (by decide +kernel) rfl⟩
theorem lm_X11_348 : LM RX11 348 mi_X1_weigh := Or.inr ⟨"StruckCounts", nw8 (i := 20) (by decide +kernel) rfl⟩
theorem lm_X11_352 : LM RX11 352 mi_X11_inLowestTerms := Or.inl (tb8 (i := 26) (by decide +kernel) rfl)
theorem lm_X11_356 : LM RX11 356 mi_X11_survey := Or.inl (tb7 (i := 165) (by decide +kernel) rfl)
theorem lm_X11_364 : LM RX11 364 mi_X11_awardOf := Or.inl (tb7 (i := 192) (by decide +kernel) rfl)
theorem lm_X11_367 : Cond.methodLink RX11 367 Lib.Math.min.name ∈ TB := tb7 (i := 146) (by decide +kernel) rfl
theorem lm_X11_381 : LM RX11 381 mi_X11_longAt := Or.inl (tb9 (i := 99) (by decide +kernel) rfl)
theorem lm_X11_388 : LM RX11 388 mi_X11_seekProofs := Or.inl (tb8 (i := 189) (by decide +kernel) rfl)
theorem lm_X11_392 : LM RX11 392 mi_X9_playOut := Or.inr ⟨"StruckCounts", nw8 (i := 218) (by decide +kernel) rfl⟩
theorem lm_X11_395 : LM RX11 395 mi_X9_winningTurn := Or.inr ⟨"StruckCounts", nw9 (i := 3) (by decide +kernel) rfl⟩
theorem lm_X11_399 : LM RX11 399 mi_X2_readQuestion := Or.inr ⟨"StruckCounts", nw9 (i := 77) (by decide +kernel) rfl⟩
theorem lm_X11_406 : LM RX11 406 mi_X4_tabulate := Or.inr ⟨"StruckCounts", nw9 (i := 81) (by decide +kernel) rfl⟩
theorem lm_X11_413 : LM RX11 413 mi_X11_standing := Or.inl (tb7 (i := 89) (by decide +kernel) rfl)
theorem lm_X11_422 : LM RX11 422 mi_X10_copy := Or.inr ⟨"StruckCounts", nw7 (i := 80) (by decide +kernel) rfl⟩
theorem lm_X11_425 : LM RX11 425 mi_X5_firstSayer := Or.inr ⟨"StruckCounts", nw8 (i := 74) (by decide +kernel) rfl⟩
theorem lm_X11_428 : LM RX11 428 mi_X4_glance := Or.inr ⟨"StruckCounts", nw7 (i := 239) (by decide +kernel) rfl⟩
theorem lm_X11_432 : LM RX11 432 mi_X1_table := Or.inr ⟨"StruckCounts", nw8 (i := 4) (by decide +kernel) rfl⟩
theorem lm_X11_435 : LM RX11 435 mi_X11_workOutBacks := Or.inl (tb7 (i := 132) (by decide +kernel) rfl)
theorem lm_X11_438 : LM RX11 438 mi_X11_leastBack := Or.inl (tb7 (i := 136) (by decide +kernel) rfl)
theorem lm_X11_441 : LM RX11 441 mi_X11_put := Or.inl (tb7 (i := 147) (by decide +kernel) rfl)
theorem lm_X11_445 : LM RX11 445 mi_X1_needsSure := Or.inr ⟨"StruckCounts", nw7 (i := 108) (by decide +kernel) rfl⟩
theorem lm_X11_449 : LM RX11 449 mi_X1_needsMet := Or.inr ⟨"StruckCounts", nw7 (i := 116) (by decide +kernel) rfl⟩
theorem lm_X11_452 : LM RX11 452 mi_X1_barred := Or.inr ⟨"StruckCounts", nw7 (i := 124) (by decide +kernel) rfl⟩
theorem lm_X11_455 : LM RX11 455 mi_X1_flawsAt := Or.inr ⟨"StruckCounts", nw9 (i := 57) (by decide +kernel) rfl⟩
theorem lm_X11_458 : LM RX11 458 mi_X9_setLeaf := Or.inr ⟨"StruckCounts", nw8 (i := 137) (by decide +kernel) rfl⟩
theorem lm_X11_461 : LM RX11 461 mi_X9_grow := Or.inr ⟨"StruckCounts", nw8 (i := 141) (by decide +kernel) rfl⟩
theorem lm_X11_467 : LM RX11 467 mi_X3_start := Or.inr ⟨"StruckCounts", nw8 (i := 193) (by decide +kernel) rfl⟩
theorem lm_X11_470 : LM RX11 470 mi_X3_more := Or.inr ⟨"StruckCounts", nw8 (i := 197) (by decide +kernel) rfl⟩
theorem lm_X11_473 : LM RX11 473 mi_X9_markOf := Or.inr ⟨"StruckCounts", nw9 (i := 61) (by decide +kernel) rfl⟩
theorem lm_X11_476 : LM RX11 476 mi_X1_sound := Or.inr ⟨"StruckCounts", nw9 (i := 65) (by decide +kernel) rfl⟩
theorem lm_X11_479 : LM RX11 479 mi_X9_isProof := Or.inr ⟨"StruckCounts", nw8 (i := 206) (by decide +kernel) rfl⟩
theorem lm_X11_483 : LM RX11 483 mi_X6_clear := Or.inr ⟨"StruckCounts", nw7 (i := 169) (by decide +kernel) rfl⟩
theorem lm_X11_484 : LM RX11 484 mi_X11_wonIn := Or.inl (tb7 (i := 178) (by decide +kernel) rfl)
theorem lm_X11_489 : LM RX11 489 mi_X6_enter := Or.inr ⟨"StruckCounts", nw7 (i := 183) (by decide +kernel) rfl⟩
theorem lm_X11_495 : Cond.methodLink RX11 495 Lib.Math.max.name ∈ TB := tb7 (i := 196) (by decide +kernel) rfl
theorem lm_X0_20 : LM RX0 20 mi_X5_init := Or.inr ⟨"StruckCounts", nw2 (i := 159) (by decide +kernel) rfl⟩
theorem lm_X0_31 : LM RX0 31 mi_X5_copy := Or.inr ⟨"StruckCounts", nw8 (i := 45) (by decide +kernel) rfl⟩
theorem lm_X0_35 : Cond.methodLink RX0 35 Lib.Math.min.name ∈ TB := tb8 (i := 52) (by decide +kernel) rfl
theorem lm_X0_41 : LM RX0 41 mi_X11_has := Or.inr ⟨"StruckCounts", nw9 (i := 112) (by decide +kernel) rfl⟩
theorem lm_X0_45 : LM RX0 45 mi_X0_note := Or.inl (tb9 (i := 113) (by decide +kernel) rfl)
theorem lm_X1_44 : LM RX1 44 mi_X10_init := Or.inr ⟨"StruckCounts", nw1 (i := 187) (by decide +kernel) rfl⟩
theorem lm_X1_78 : LM RX1 78 mi_X11_wipe := Or.inr ⟨"StruckCounts", nw3 (i := 24) (by decide +kernel) rfl⟩
theorem lm_X1_82 : LM RX1 82 mi_X10_fill := Or.inr ⟨"StruckCounts", nw3 (i := 27) (by decide +kernel) rfl⟩
theorem lm_X1_85 : LM RX1 85 mi_X10_keepFirst := Or.inr ⟨"StruckCounts", nw3 (i := 36) (by decide +kernel) rfl⟩
theorem lm_X1_89 : LM RX1 89 mi_X11_at := Or.inr ⟨"StruckCounts", nw3 (i := 52) (by decide +kernel) rfl⟩
theorem lm_X1_93 : LM RX1 93 mi_X1_table := Or.inl (tb3 (i := 53) (by decide +kernel) rfl)
theorem lm_X1_97 : LM RX1 97 mi_X4_tabulate := Or.inr ⟨"StruckCounts", nw3 (i := 57) (by decide +kernel) rfl⟩
theorem lm_X1_103 : LM RX1 103 mi_X1_wonBy := Or.inl (tb3 (i := 94) (by decide +kernel) rfl)
theorem lm_X1_106 : LM RX1 106 mi_X1_finishWon := Or.inl (tb3 (i := 98) (by decide +kernel) rfl)
theorem lm_X1_110 : LM RX1 110 mi_X1_weightOf := Or.inl (tb3 (i := 113) (by decide +kernel) rfl)
theorem lm_X1_114 : LM RX1 114 mi_X11_put := Or.inr ⟨"StruckCounts", nw3 (i := 118) (by decide +kernel) rfl⟩
theorem lm_X1_118 : LM RX1 118 mi_X11_needSlot := Or.inr ⟨"StruckCounts", nw3 (i := 102) (by decide +kernel) rfl⟩
theorem lm_X1_122 : LM RX1 122 mi_X10_and := Or.inr ⟨"StruckCounts", nw3 (i := 105) (by decide +kernel) rfl⟩
theorem lm_X1_126 : LM RX1 126 mi_X10_minus := Or.inr ⟨"StruckCounts", nw3 (i := 109) (by decide +kernel) rfl⟩
theorem lm_X1_129 : LM RX1 129 mi_X11_has := Or.inr ⟨"StruckCounts", nw3 (i := 117) (by decide +kernel) rfl⟩
theorem lm_X1_133 : Cond.methodLink RX1 133 Lib.Math.min.name ∈ TB := tb7 (i := 59) (by decide +kernel) rfl
theorem lm_X1_138 : LM RX1 138 mi_X10_within := Or.inr ⟨"StruckCounts", nw7 (i := 112) (by decide +kernel) rfl⟩
theorem lm_X1_142 : LM RX1 142 mi_X10_meets := Or.inr ⟨"StruckCounts", nw7 (i := 120) (by decide +kernel) rfl⟩
theorem lm_X1_145 : LM RX1 145 mi_X10_holds := Or.inr ⟨"StruckCounts", nw8 (i := 24) (by decide +kernel) rfl⟩
theorem lm_X2_11 : LM RX2 11 mi_X10_init := Or.inr ⟨"StruckCounts", nw2 (i := 120) (by decide +kernel) rfl⟩
theorem lm_X2_34 : LM RX2 34 mi_X2_begin := Or.inl (tb6 (i := 160) (by decide +kernel) rfl)
theorem lm_X2_38 : LM RX2 38 mi_X1_clear := Or.inr ⟨"StruckCounts", nw6 (i := 164) (by decide +kernel) rfl⟩
theorem lm_X2_43 : LM RX2 43 mi_X5_clear := Or.inr ⟨"StruckCounts", nw6 (i := 165) (by decide +kernel) rfl⟩
theorem lm_X2_46 : LM RX2 46 mi_X2_nextKind := Or.inl (tb6 (i := 169) (by decide +kernel) rfl)
theorem lm_X2_50 : LM RX2 50 mi_X2_readLine := Or.inl (tb6 (i := 173) (by decide +kernel) rfl)
theorem lm_X2_58 : LM RX2 58 mi_X2_readEither := Or.inl (tb6 (i := 214) (by decide +kernel) rfl)
theorem lm_X2_62 : LM RX2 62 mi_X2_expect := Or.inl (tb6 (i := 206) (by decide +kernel) rfl)
theorem lm_X2_71 : LM RX2 71 mi_X2_readFact := Or.inl (tb6 (i := 177) (by decide +kernel) rfl)
theorem lm_X2_74 : LM RX2 74 mi_X2_readNever := Or.inl (tb6 (i := 210) (by decide +kernel) rfl)
theorem lm_X2_77 : LM RX2 77 mi_X2_readCount := Or.inl (tb7 (i := 18) (by decide +kernel) rfl)
theorem lm_X2_80 : LM RX2 80 mi_X2_readPlea := Or.inl (tb7 (i := 32) (by decide +kernel) rfl)
theorem lm_X2_83 : LM RX2 83 mi_X2_readSays := Or.inl (tb7 (i := 40) (by decide +kernel) rfl)
theorem lm_X2_86 : LM RX2 86 mi_X2_readSame := Or.inl (tb7 (i := 51) (by decide +kernel) rfl)
theorem lm_X2_89 : LM RX2 89 mi_X2_readLimit := Or.inl (tb7 (i := 60) (by decide +kernel) rfl)
theorem lm_X2_92 : LM RX2 92 mi_X2_fail := Or.inl (tb6 (i := 181) (by decide +kernel) rfl)
theorem lm_X2_98 : LM RX2 98 mi_X2_newName := Or.inl (tb6 (i := 185) (by decide +kernel) rfl)
theorem lm_X2_104 : LM RX2 104 mi_X2_number := Or.inl (tb6 (i := 201) (by decide +kernel) rfl)
theorem lm_X2_112 : LM RX2 112 mi_X11_put := Or.inr ⟨"StruckCounts", nw6 (i := 205) (by decide +kernel) rfl⟩
theorem lm_X2_128 : LM RX2 128 mi_X4_tabulate := Or.inr ⟨"StruckCounts", nw7 (i := 2) (by decide +kernel) rfl⟩
theorem lm_X2_137 : LM RX2 137 mi_X10_minus := Or.inr ⟨"StruckCounts", nw7 (i := 3) (by decide +kernel) rfl⟩
theorem lm_X2_141 : LM RX2 141 mi_X10_isEmpty := Or.inr ⟨"StruckCounts", nw7 (i := 4) (by decide +kernel) rfl⟩
theorem lm_X2_147 : LM RX2 147 mi_X11_needSlot := Or.inr ⟨"StruckCounts", nw7 (i := 22) (by decide +kernel) rfl⟩
theorem lm_X2_151 : LM RX2 151 mi_X2_readInto := Or.inl (tb7 (i := 23) (by decide +kernel) rfl)
theorem lm_X2_160 : LM RX2 160 mi_X5_file := Or.inr ⟨"StruckCounts", nw7 (i := 27) (by decide +kernel) rfl⟩
theorem lm_X2_167 : LM RX2 167 mi_X2_knownCount := Or.inl (tb7 (i := 36) (by decide +kernel) rfl)
theorem lm_X2_173 : LM RX2 173 mi_X2_knownFact := Or.inl (tb6 (i := 238) (by decide +kernel) rfl)
theorem lm_X2_179 : LM RX2 179 mi_X11_at := Or.inr ⟨"StruckCounts", nw7 (i := 44) (by decide +kernel) rfl⟩
theorem lm_X2_183 : LM RX2 183 mi_X11_has := Or.inr ⟨"StruckCounts", nw7 (i := 45) (by decide +kernel) rfl⟩
theorem lm_X2_186 : LM RX2 186 mi_X5_tell := Or.inr ⟨"StruckCounts", nw7 (i := 46) (by decide +kernel) rfl⟩
theorem lm_X2_193 : LM RX2 193 mi_X1_unite := Or.inr ⟨"StruckCounts", nw7 (i := 55) (by decide +kernel) rfl⟩
theorem lm_X2_206 : LM RX2 206 mi_X2_readEvery := Or.inl (tb6 (i := 218) (by decide +kernel) rfl)
theorem lm_X2_209 : LM RX2 209 mi_X1_emit := Or.inr ⟨"StruckCounts", nw6 (i := 230) (by decide +kernel) rfl⟩
theorem lm_X2_213 : LM RX2 213 mi_X2_readOne := Or.inl (tb6 (i := 222) (by decide +kernel) rfl)
theorem lm_X2_216 : LM RX2 216 mi_X2_readSeveral := Or.inl (tb6 (i := 226) (by decide +kernel) rfl)
theorem lm_X2_219 : LM RX2 219 mi_X2_seventhFault := Or.inl (tb6 (i := 234) (by decide +kernel) rfl)
theorem lm_X2_222 : LM RX2 222 mi_X2_nextValue := Or.inl (tb6 (i := 189) (by decide +kernel) rfl)
theorem lm_X2_225 : LM RX2 225 mi_X1_factNamed := Or.inr ⟨"StruckCounts", nw6 (i := 193) (by decide +kernel) rfl⟩
theorem lm_X2_229 : LM RX2 229 mi_X1_countNamed := Or.inr ⟨"StruckCounts", nw6 (i := 197) (by decide +kernel) rfl⟩
theorem lm_X3_28 : LM RX3 28 mi_X3_nextFacts := Or.inl (tb8 (i := 201) (by decide +kernel) rfl)
theorem lm_X3_32 : LM RX3 32 mi_J6_bitCount_0f7a4 := Or.inl (tb8 (i := 205) (by decide +kernel) rfl)
theorem lm_X4_25 : LM RX4 25 mi_X4_run := Or.inl (tb3 (i := 61) (by decide +kernel) rfl)
theorem lm_X4_34 : LM RX4 34 mi_X11_longAt := Or.inr ⟨"StruckCounts", nw3 (i := 88) (by decide +kernel) rfl⟩
theorem lm_X4_38 : LM RX4 38 mi_X11_putLong := Or.inr ⟨"StruckCounts", nw3 (i := 91) (by decide +kernel) rfl⟩
theorem lm_X4_57 : LM RX4 57 mi_X11_at := Or.inr ⟨"StruckCounts", nw8 (i := 3) (by decide +kernel) rfl⟩
theorem lm_X4_67 : LM RX4 67 mi_X4_replace := Or.inl (tb3 (i := 65) (by decide +kernel) rfl)
theorem lm_X4_71 : LM RX4 71 mi_X4_leafYes := Or.inl (tb3 (i := 69) (by decide +kernel) rfl)
theorem lm_X4_75 : LM RX4 75 mi_X4_leafNo := Or.inl (tb3 (i := 76) (by decide +kernel) rfl)
theorem lm_X4_78 : LM RX4 78 mi_X4_top := Or.inl (tb3 (i := 80) (by decide +kernel) rfl)
theorem lm_X4_81 : LM RX4 81 mi_X4_atLeast := Or.inl (tb3 (i := 84) (by decide +kernel) rfl)
theorem lm_X4_85 : LM RX4 85 mi_X11_has := Or.inr ⟨"StruckCounts", nw3 (i := 73) (by decide +kernel) rfl⟩
theorem lm_X4_91 : LM RX4 91 mi_X10_soIn := Or.inr ⟨"StruckCounts", nw3 (i := 75) (by decide +kernel) rfl⟩
theorem lm_X5_59 : LM RX5 59 mi_X11_copyRow := Or.inr ⟨"StruckCounts", nw8 (i := 49) (by decide +kernel) rfl⟩
theorem lm_X5_63 : LM RX5 63 mi_J6_bitCount_0f7a4 := Or.inl (tb8 (i := 61) (by decide +kernel) rfl)
theorem lm_X5_69 : LM RX5 69 mi_X11_has := Or.inr ⟨"StruckCounts", nw7 (i := 209) (by decide +kernel) rfl⟩
theorem lm_X5_73 : LM RX5 73 mi_X11_at := Or.inr ⟨"StruckCounts", nw7 (i := 50) (by decide +kernel) rfl⟩
theorem lm_X5_77 : LM RX5 77 mi_X11_put := Or.inr ⟨"StruckCounts", nw7 (i := 31) (by decide +kernel) rfl⟩
theorem lm_X6_32 : LM RX6 32 mi_X11_wipe := Or.inr ⟨"StruckCounts", nw7 (i := 173) (by decide +kernel) rfl⟩
theorem lm_X6_36 : LM RX6 36 mi_X11_at := Or.inr ⟨"StruckCounts", nw7 (i := 187) (by decide +kernel) rfl⟩
theorem lm_X6_40 : LM RX6 40 mi_X11_put := Or.inr ⟨"StruckCounts", nw7 (i := 188) (by decide +kernel) rfl⟩
theorem lm_X6_44 : LM RX6 44 mi_X11_putLong := Or.inr ⟨"StruckCounts", nw7 (i := 189) (by decide +kernel) rfl⟩
theorem lm_X6_48 : LM RX6 48 mi_X11_longAt := Or.inr ⟨"StruckCounts", nw7 (i := 190) (by decide +kernel) rfl⟩
theorem lm_X7_19 : LM RX7 19 mi_X11_put := Or.inr ⟨"StruckCounts", nw6 (i := 75) (by decide +kernel) rfl⟩
theorem lm_X7_23 : LM RX7 23 mi_X11_at := Or.inr ⟨"StruckCounts", nw6 (i := 88) (by decide +kernel) rfl⟩
theorem lm_X8_24 : LM RX8 24 mi_X8_reservedLetters := Or.inl (tb1 (i := 72) (by decide +kernel) rfl)
theorem lm_X8_28 : LM RX8 28 mi_X11_put := Or.inr ⟨"StruckCounts", nw1 (i := 127) (by decide +kernel) rfl⟩
theorem lm_X8_34 : LM RX8 34 mi_J0_length_8abf5 := Or.inl (tb1 (i := 76) (by decide +kernel) rfl)
theorem lm_X8_40 : LM RX8 40 mi_J0_charAt_5068e := Or.inl (tb1 (i := 86) (by decide +kernel) rfl)
theorem lm_X8_44 : LM RX8 44 mi_X8_withLetter := Or.inl (tb1 (i := 124) (by decide +kernel) rfl)
theorem lm_X8_55 : LM RX8 55 mi_X7_read := Or.inr ⟨"StruckCounts", nw6 (i := 84) (by decide +kernel) rfl⟩
theorem lm_X8_58 : LM RX8 58 mi_X8_cutOne := Or.inl (tb6 (i := 89) (by decide +kernel) rfl)
theorem lm_X8_62 : LM RX8 62 mi_X8_note := Or.inl (tb6 (i := 100) (by decide +kernel) rfl)
theorem lm_X8_66 : LM RX8 66 mi_X8_runEnd := Or.inl (tb6 (i := 93) (by decide +kernel) rfl)
theorem lm_X8_70 : LM RX8 70 mi_X8_noteWord := Or.inl (tb6 (i := 96) (by decide +kernel) rfl)
theorem lm_X8_74 : LM RX8 74 mi_X8_noteNumber := Or.inl (tb6 (i := 105) (by decide +kernel) rfl)
theorem lm_X8_79 : LM RX8 79 mi_J0_indexOf_0f7a4 := Or.inl (tb6 (i := 110) (by decide +kernel) rfl)
theorem lm_X8_82 : LM RX8 82 mi_X11_at := Or.inr ⟨"StruckCounts", nw6 (i := 104) (by decide +kernel) rfl⟩
theorem lm_X9_24 : LM RX9 24 mi_X11_at := Or.inr ⟨"StruckCounts", nw2 (i := 185) (by decide +kernel) rfl⟩
theorem lm_X9_28 : LM RX9 28 mi_X11_put := Or.inr ⟨"StruckCounts", nw2 (i := 188) (by decide +kernel) rfl⟩
theorem lm_X9_32 : LM RX9 32 mi_X9_node := Or.inl (tb8 (i := 145) (by decide +kernel) rfl)
theorem lm_X9_40 : LM RX9 40 mi_X9_markFrom := Or.inl (tb8 (i := 149) (by decide +kernel) rfl)
theorem lm_X9_43 : LM RX9 43 mi_X9_fewestTrials := Or.inl (tb8 (i := 157) (by decide +kernel) rfl)
theorem lm_X9_46 : LM RX9 46 mi_X11_has := Or.inr ⟨"StruckCounts", nw8 (i := 161) (by decide +kernel) rfl⟩
theorem lm_X9_50 : LM RX9 50 mi_X9_trialsBy := Or.inl (tb8 (i := 162) (by decide +kernel) rfl)
theorem lm_X9_53 : Cond.methodLink RX9 53 Lib.Math.min.name ∈ TB := tb8 (i := 167) (by decide +kernel) rfl
theorem lm_X9_58 : Cond.methodLink RX9 58 Lib.Math.max.name ∈ TB := tb8 (i := 166) (by decide +kernel) rfl
theorem lm_X9_61 : LM RX9 61 mi_X9_value := Or.inl (tb8 (i := 176) (by decide +kernel) rfl)
theorem lm_X9_65 : LM RX9 65 mi_J6_bitCount_0f7a4 := Or.inl (tb8 (i := 222) (by decide +kernel) rfl)
theorem lm_X9_71 : LM RX9 71 mi_X9_winner := Or.inl (tb8 (i := 223) (by decide +kernel) rfl)
theorem lm_X9_75 : LM RX9 75 mi_X9_bestTurn := Or.inl (tb8 (i := 227) (by decide +kernel) rfl)
theorem lm_X9_78 : LM RX9 78 mi_X9_leadsTo := Or.inl (tb8 (i := 231) (by decide +kernel) rfl)
theorem lm_X10_20 : LM RX10 20 mi_X11_has := Or.inr ⟨"StruckCounts", nw3 (i := 44) (by decide +kernel) rfl⟩
theorem lm_X10_24 : LM RX10 24 mi_X10_soIn := Or.inl (tb3 (i := 47) (by decide +kernel) rfl)
theorem lm_X10_28 : LM RX10 28 mi_X10_agree := Or.inl (tb3 (i := 40) (by decide +kernel) rfl)
theorem lm_X10_32 : LM RX10 32 mi_X10_size := Or.inl (tb7 (i := 8) (by decide +kernel) rfl)
theorem lm_X10_36 : LM RX10 36 mi_J13_bitCount_95d88 := Or.inl (tb7 (i := 12) (by decide +kernel) rfl)
theorem lm_X10_42 : LM RX10 42 mi_X10_within := Or.inl (tb8 (i := 10) (by decide +kernel) rfl)
theorem lm_X10_46 : LM RX10 46 mi_X10_meets := Or.inl (tb8 (i := 11) (by decide +kernel) rfl)
theorem lm_L_9 : LM RL 9 mi_X11_init := Or.inl (tb1 (i := 46) (by decide +kernel) rfl)
theorem lm_L_22 : LM RL 22 mi_Jx4a65c_init_da8c8 := Or.inl (tb3 (i := 176) (by decide +kernel) rfl)
theorem lm_L_44 : Cond.methodLink RL 44 Lib.Math.max.name ∈ TB := tb4 (i := 11) (by decide +kernel) rfl
theorem lm_L_50 : LM RL 50 mi_L_at := Or.inl (tb4 (i := 14) (by decide +kernel) rfl)
theorem lm_L_57 : LM RL 57 mi_X11_end := Or.inl (tb6 (i := 58) (by decide +kernel) rfl)
theorem lm_L_61 : LM RL 61 mi_J0_length_8abf5 := Or.inl (tb5 (i := 66) (by decide +kernel) rfl)
theorem lm_L_67 : LM RL 67 mi_J0_charAt_5068e := Or.inl (tb6 (i := 66) (by decide +kernel) rfl)
theorem lm_L_71 : LM RL 71 mi_X11_sign := Or.inl (tb6 (i := 67) (by decide +kernel) rfl)
theorem lm_L_75 : LM RL 75 mi_L_draw := Or.inl (tb4 (i := 7) (by decide +kernel) rfl)
theorem lm_L_80 : LM RL 80 mi_X13_init := Or.inl (tb5 (i := 73) (by decide +kernel) rfl)
theorem lm_L_83 : LM RL 83 mi_L_said := Or.inl (tb5 (i := 67) (by decide +kernel) rfl)
theorem lm_L_90 : LM RL 90 mi_Jx4a65c_iterator_32c93 := Or.inl (tb5 (i := 148) (by decide +kernel) rfl)
theorem ci_L_94 {d : Nat} (hd : 1 + 1 ≤ d) : cFn mi_Jx35411_hasNext_aae02 RL 94 d 1 0 ⟨"java/util/Iterator", "hasNext", "()Z"⟩ "java/util/ArrayList$Itr" := ⟨⟨tb5 (i := 180) (by decide +kernel) rfl, tb1 (i := 30) (by decide +kernel) rfl, hd, by decide⟩, ⟨tb5 (i := 172) (by decide +kernel) rfl, tb5 (i := 176) (by decide +kernel) rfl, tb5 (i := 178) (by decide +kernel) rfl⟩, by decide, by decide, by decide +kernel⟩
theorem ci_L_100 {d : Nat} (hd : 2 + 1 ≤ d) : cFn mi_Jx35411_next_0502b RL 100 d 2 0 ⟨"java/util/Iterator", "next", "()Ljava/lang/Object;"⟩ "java/util/ArrayList$Itr" := ⟨⟨tb5 (i := 189) (by decide +kernel) rfl, tb1 (i := 30) (by decide +kernel) rfl, hd, by decide⟩, ⟨tb5 (i := 182) (by decide +kernel) rfl, tb5 (i := 185) (by decide +kernel) rfl, tb5 (i := 187) (by decide +kernel) rfl⟩, by decide, by decide, by decide +kernel⟩
theorem lm_L_103 : LM RL 103 mi_X13_holds := Or.inl (tb5 (i := 194) (by decide +kernel) rfl)
theorem lm_L_106 : LM RL 106 mi_L_can := Or.inl (tb5 (i := 144) (by decide +kernel) rfl)
theorem lm_L_129 : LM RL 129 mi_J4_init_da8c8 := Or.inl (tb4 (i := 195) (by decide +kernel) rfl)
theorem lm_L_130 : LM RL 130 mi_J4_append_15ec4 := Or.inl (tb4 (i := 202) (by decide +kernel) rfl)
theorem lm_L_134 : LM RL 134 mi_J4_append_cf468 := Or.inl (tb4 (i := 206) (by decide +kernel) rfl)
theorem lm_L_137 : LM RL 137 mi_J4_toString_0e30d := Or.inl (tb4 (i := 219) (by decide +kernel) rfl)
theorem lm_L_143 : LM RL 143 mi_J4_length_8abf5 := Or.inl (tb5 (i := 65) (by decide +kernel) rfl)
theorem lm_L_144 : LM RL 144 mi_L_gap := Or.inl (tb4 (i := 28) (by decide +kernel) rfl)
theorem lm_L_150 : LM RL 150 mi_J4_init_a7421 := Or.inl (tb4 (i := 35) (by decide +kernel) rfl)
theorem lm_L_156 : LM RL 156 mi_Jx4a65c_clear_da8c8 := Or.inl (tb4 (i := 168) (by decide +kernel) rfl)
theorem lm_L_159 : LM RL 159 mi_X14_init := Or.inr ⟨"StruckCountsLaw", nw4 (i := 174) (by decide +kernel) rfl⟩
theorem lm_L_165 : LM RL 165 mi_L_fact := Or.inl (tb4 (i := 203) (by decide +kernel) rfl)
theorem lm_L_169 : LM RL 169 mi_J4_append_bf812 := Or.inl (tb5 (i := 36) (by decide +kernel) rfl)
theorem lm_L_172 : LM RL 172 mi_L_fits := Or.inl (tb5 (i := 61) (by decide +kernel) rfl)
theorem lm_L_176 : LM RL 176 mi_Jx4a65c_add_9ea2d := Or.inl (tb5 (i := 88) (by decide +kernel) rfl)
theorem lm_L_180 : LM RL 180 mi_L_some := Or.inl (tb5 (i := 140) (by decide +kernel) rfl)
theorem lm_L_185 : LM RL 185 mi_Jx4a65c_size_8abf5 := Or.inl (tb5 (i := 200) (by decide +kernel) rfl)
theorem lm_L_188 : LM RL 188 mi_Jx4a65c_get_915e3 := Or.inl (tb5 (i := 204) (by decide +kernel) rfl)
theorem lm_L_192 : LM RL 192 mi_X13_all := Or.inl (tb5 (i := 216) (by decide +kernel) rfl)
theorem lm_L_195 : LM RL 195 mi_Jx4a65c_remove_915e3 := Or.inl (tb6 (i := 0) (by decide +kernel) rfl)
theorem lm_L_202 : LM RL 202 mi_L_count := Or.inl (tb6 (i := 11) (by decide +kernel) rfl)
theorem lm_L_215 : LM RL 215 mi_X12_init := Or.inl (tb6 (i := 21) (by decide +kernel) rfl)
theorem lm_L_242 : LM RL 242 mi_L_text := Or.inl (tb6 (i := 54) (by decide +kernel) rfl)
theorem lm_L_245 : LM RL 245 mi_X11_suit := Or.inl (tb6 (i := 76) (by decide +kernel) rfl)
theorem lm_L_248 : LM RL 248 mi_X11_fault := Or.inl (tb7 (i := 68) (by decide +kernel) rfl)
theorem lm_L_251 : LM RL 251 mi_X11_count := Or.inl (tb7 (i := 72) (by decide +kernel) rfl)
theorem lm_L_253 : LM RL 253 mi_X11_of := Or.inl (tb7 (i := 218) (by decide +kernel) rfl)
theorem lm_L_256 : LM RL 256 mi_X11_element := Or.inl (tb7 (i := 230) (by decide +kernel) rfl)
theorem lm_L_260 : LM RL 260 mi_X11_judged := Or.inl (tb8 (i := 12) (by decide +kernel) rfl)
theorem lm_L_263 : LM RL 263 mi_X11_chance := Or.inl (tb8 (i := 16) (by decide +kernel) rfl)
theorem lm_L_266 : LM RL 266 mi_X11_worlds := Or.inl (tb7 (i := 156) (by decide +kernel) rfl)
theorem lm_L_269 : LM RL 269 mi_X11_award := Or.inl (tb7 (i := 161) (by decide +kernel) rfl)
theorem lm_L_272 : LM RL 272 mi_X11_fact := Or.inl (tb7 (i := 197) (by decide +kernel) rfl)
theorem lm_L_274 : LM RL 274 mi_L_numbers := Or.inl (tb7 (i := 214) (by decide +kernel) rfl)
theorem lm_L_277 : LM RL 277 mi_X11_outcomes := Or.inl (tb8 (i := 29) (by decide +kernel) rfl)
theorem lm_L_280 : LM RL 280 mi_X11_find := Or.inl (tb8 (i := 78) (by decide +kernel) rfl)
theorem lm_L_284 : LM RL 284 mi_X11_answer := Or.inl (tb8 (i := 33) (by decide +kernel) rfl)
theorem lm_L_287 : LM RL 287 mi_X11_undo := Or.inl (tb8 (i := 109) (by decide +kernel) rfl)
theorem lm_L_290 : LM RL 290 mi_L_digest := Or.inl (tb7 (i := 152) (by decide +kernel) rfl)
theorem lm_L_293 : LM RL 293 mi_X11_withdraw := Or.inl (tb8 (i := 62) (by decide +kernel) rfl)
theorem lm_L_296 : LM RL 296 mi_X11_close := Or.inl (tb8 (i := 66) (by decide +kernel) rfl)
theorem lm_L_299 : LM RL 299 mi_X11_say := Or.inl (tb8 (i := 86) (by decide +kernel) rfl)
theorem lm_L_302 : LM RL 302 mi_X11_strike := Or.inl (tb8 (i := 91) (by decide +kernel) rfl)
theorem lm_L_305 : LM RL 305 mi_X11_days := Or.inl (tb8 (i := 95) (by decide +kernel) rfl)
theorem lm_L_308 : LM RL 308 mi_X11_add := Or.inl (tb8 (i := 99) (by decide +kernel) rfl)
theorem lm_L_310 : Cond.methodLink RL 310 Lib.Math.min.name ∈ TB := tb8 (i := 104) (by decide +kernel) rfl
theorem lm_L_313 : LM RL 313 mi_L_taken := Or.inl (tb8 (i := 105) (by decide +kernel) rfl)
theorem lm_L_316 : LM RL 316 mi_X11_tries := Or.inl (tb8 (i := 129) (by decide +kernel) rfl)
theorem lm_L_319 : LM RL 319 mi_X11_issues := Or.inl (tb8 (i := 177) (by decide +kernel) rfl)
theorem lm_L_322 : LM RL 322 mi_X11_proofs := Or.inl (tb8 (i := 185) (by decide +kernel) rfl)
theorem lm_L_325 : LM RL 325 mi_X11_proof := Or.inl (tb8 (i := 210) (by decide +kernel) rfl)
theorem lm_L_329 : LM RL 329 mi_X11_duel := Or.inl (tb8 (i := 214) (by decide +kernel) rfl)
theorem lm_L_332 : LM RL 332 mi_L_makes := Or.inl (tb8 (i := 235) (by decide +kernel) rfl)
theorem lm_L_336 : LM RL 336 mi_X11_turn := Or.inl (tb8 (i := 239) (by decide +kernel) rfl)
theorem lm_L_339 : LM RL 339 mi_L_proved := Or.inl (tb9 (i := 7) (by decide +kernel) rfl)
theorem lm_L_343 : LM RL 343 mi_J6_bitCount_0f7a4 := Or.inl (tb9 (i := 11) (by decide +kernel) rfl)
theorem lm_L_348 : LM RL 348 mi_X11_ask := Or.inl (tb9 (i := 73) (by decide +kernel) rfl)
theorem lm_L_351 : LM RL 351 mi_X11_asked := Or.inl (tb9 (i := 82) (by decide +kernel) rfl)
theorem lm_L_354 : Cond.methodLink RL 354 ⟨"java/lang/Math", "abs", "(D)D"⟩ ∈ TB := tb9 (i := 25) (by decide +kernel) rfl
theorem lm_L_360 : LM RL 360 mi_X11_outcome := Or.inl (tb9 (i := 90) (by decide +kernel) rfl)
theorem lm_L_363 : LM RL 363 mi_X11_together := Or.inl (tb9 (i := 35) (by decide +kernel) rfl)
theorem lm_L_366 : LM RL 366 mi_X11_meant := Or.inl (tb9 (i := 94) (by decide +kernel) rfl)
theorem lm_L_370 : LM RL 370 mi_X11_elect := Or.inl (tb9 (i := 100) (by decide +kernel) rfl)
theorem lm_L_373 : LM RL 373 mi_X11_clash := Or.inl (tb9 (i := 16) (by decide +kernel) rfl)
theorem lm_L_376 : LM RL 376 mi_X11_implied := Or.inl (tb9 (i := 20) (by decide +kernel) rfl)
theorem lm_L_379 : LM RL 379 mi_X11_grown := Or.inl (tb9 (i := 39) (by decide +kernel) rfl)
theorem lm_L_382 : LM RL 382 mi_X11_lacks := Or.inl (tb9 (i := 49) (by decide +kernel) rfl)
theorem lm_L_385 : LM RL 385 mi_L_init := Or.inl (tb1 (i := 38) (by decide +kernel) rfl)
theorem lm_L_386 : LM RL 386 mi_L_holds := Or.inl (tb4 (i := 3) (by decide +kernel) rfl)
theorem lm_L_389 : LM RL 389 mi_L_told := Or.inl (tb4 (i := 22) (by decide +kernel) rfl)
theorem lm_L_392 : LM RL 392 mi_L_acts := Or.inl (tb7 (i := 148) (by decide +kernel) rfl)
theorem lm_L_395 : LM RL 395 mi_X11_keep := Or.inl (tb8 (i := 117) (by decide +kernel) rfl)
theorem lm_L_398 : LM RL 398 mi_L_judged := Or.inl (tb8 (i := 125) (by decide +kernel) rfl)
theorem lm_L_400 : LM RL 400 mi_L_pairs := Or.inl (tb9 (i := 12) (by decide +kernel) rfl)
theorem lm_L_403 : LM RL 403 mi_L_lacked := Or.inl (tb9 (i := 45) (by decide +kernel) rfl)
theorem lm_L_406 : LM RL 406 mi_L_weighed := Or.inl (tb9 (i := 69) (by decide +kernel) rfl)
theorem lm_L_409 : LM RL 409 mi_L_paid := Or.inl (tb9 (i := 86) (by decide +kernel) rfl)
theorem lm_L_412 : LM RL 412 mi_X11_again := Or.inl (tb9 (i := 104) (by decide +kernel) rfl)
theorem lm_X13_20 : LM RX13 20 mi_X13_holds := Or.inl (tb5 (i := 198) (by decide +kernel) rfl)
theorem lm_X13_28 : LM RX13 28 mi_X13_all := Or.inl (tb5 (i := 231) (by decide +kernel) rfl)
theorem lm_X13_34 : LM RX13 34 mi_J4_init_da8c8 := Or.inl (tb5 (i := 221) (by decide +kernel) rfl)
theorem lm_X13_37 : LM RX13 37 mi_J4_append_15ec4 := Or.inl (tb5 (i := 223) (by decide +kernel) rfl)
theorem lm_X13_43 : LM RX13 43 mi_J4_toString_0e30d := Or.inl (tb5 (i := 225) (by decide +kernel) rfl)
theorem lm_X13_48 : LM RX13 48 mi_J4_append_cf468 := Or.inl (tb5 (i := 224) (by decide +kernel) rfl)
theorem lm_X13_53 : LM RX13 53 mi_X13_one := Or.inl (tb5 (i := 227) (by decide +kernel) rfl)
theorem lm_X13_56 : LM RX13 56 mi_J4_append_bf812 := Or.inl (tb5 (i := 234) (by decide +kernel) rfl)
theorem lm_X13_61 : LM RX13 61 mi_J4_init_a7421 := Or.inl (tb5 (i := 236) (by decide +kernel) rfl)
theorem lm_X14_18 : LM RX14 18 mi_Jx4a65c_init_da8c8 := Or.inl (tb4 (i := 179) (by decide +kernel) rfl)
theorem lm_J5_32 : LM RJ5 32 mi_J0_length_8abf5 := Or.inl (tb4 (i := 42) (by decide +kernel) rfl)
theorem lm_J5_40 : LM RJ5 40 mi_J0_coder_7d493 := Or.inl (tb4 (i := 45) (by decide +kernel) rfl)
theorem cu_J5_43 {d : Nat} (hd : 6 + 1 ≤ d) : cUn mi_J4_append_cf1ce RJ5 43 d 6 1 ⟨"java/lang/AbstractStringBuilder", "append", "(Ljava/lang/String;)Ljava/lang/AbstractStringBuilder;"⟩ "java/lang/StringBuilder" := ⟨⟨tb4 (i := 58) (by decide +kernel) rfl, tb1 (i := 22) (by decide +kernel) rfl, hd, by decide⟩, ⟨tb4 (i := 53) (by decide +kernel) rfl, tb4 (i := 55) (by decide +kernel) rfl, tb4 (i := 56) (by decide +kernel) rfl, tb4 (i := 57) (by decide +kernel) rfl⟩, Or.inr ⟨tb4 (i := 54) (by decide +kernel) rfl, _, _, _, tb4 (i := 65) rfl rfl⟩, by decide, by decide, by decide +kernel⟩
theorem cu_J5_83 {d : Nat} (hd : 1 + 1 ≤ d) : cUn mi_J5_isLatin1_aae02 RJ5 83 d 1 0 ⟨"java/lang/AbstractStringBuilder", "isLatin1", "()Z"⟩ "java/lang/StringBuilder" := ⟨⟨tb4 (i := 106) (by decide +kernel) rfl, tb1 (i := 21) (by decide +kernel) rfl, hd, by decide⟩, ⟨tb4 (i := 102) (by decide +kernel) rfl, tb4 (i := 104) (by decide +kernel) rfl, tb4 (i := 105) (by decide +kernel) rfl, tb4 (i := 103) (by decide +kernel) rfl⟩, Or.inl rfl, by decide, by decide, by decide +kernel⟩
theorem cu_J5_100 {d : Nat} (hd : 3 + 1 ≤ d) : cUn mi_J5_ensureCapacityInternal_d00df RJ5 100 d 3 1 ⟨"java/lang/AbstractStringBuilder", "ensureCapacityInternal", "(I)V"⟩ "java/lang/StringBuilder" := ⟨⟨tb4 (i := 73) (by decide +kernel) rfl, tb1 (i := 21) (by decide +kernel) rfl, hd, by decide⟩, ⟨tb4 (i := 70) (by decide +kernel) rfl, tb9 (i := 115) (by decide +kernel) rfl, TBs (by decide +kernel), tb4 (i := 72) (by decide +kernel) rfl⟩, Or.inl rfl, by decide, by decide, by decide +kernel⟩
theorem cu_J5_104 {d : Nat} (hd : 2 + 1 ≤ d) : cUn mi_J5_newCapacity_0f7a4 RJ5 104 d 2 1 ⟨"java/lang/AbstractStringBuilder", "newCapacity", "(I)I"⟩ "java/lang/StringBuilder" := ⟨⟨tb4 (i := 77) (by decide +kernel) rfl, tb1 (i := 21) (by decide +kernel) rfl, hd, by decide⟩, ⟨tb4 (i := 74) (by decide +kernel) rfl, tb9 (i := 116) (by decide +kernel) rfl, TBs (by decide +kernel), tb4 (i := 76) (by decide +kernel) rfl⟩, Or.inl rfl, by decide, by decide, by decide +kernel⟩
theorem lm_J5_108 : LM RJ5 108 mi_J7_copyOf_9075b := Or.inl (tb4 (i := 86) (by decide +kernel) rfl)
theorem lm_J5_114 : LM RJ5 114 mi_J8_newLength_cabcc := Or.inl (tb4 (i := 78) (by decide +kernel) rfl)
theorem lm_J5_191 : LM RJ5 191 mi_J1_canEncode_fc78d := Or.inl (tb4 (i := 213) (by decide +kernel) rfl)
theorem cu_J5_208 {d : Nat} (hd : 3 + 1 ≤ d) : cUn mi_J5_putStringAt_47b60 RJ5 208 d 3 2 ⟨"java/lang/AbstractStringBuilder", "putStringAt", "(ILjava/lang/String;)V"⟩ "java/lang/StringBuilder" := ⟨⟨tb4 (i := 126) (by decide +kernel) rfl, tb1 (i := 21) (by decide +kernel) rfl, hd, by decide⟩, ⟨tb4 (i := 123) (by decide +kernel) rfl, tb9 (i := 117) (by decide +kernel) rfl, TBs (by decide +kernel), tb4 (i := 125) (by decide +kernel) rfl⟩, Or.inl rfl, by decide, by decide, by decide +kernel⟩
theorem lm_J5_245 : LM RJ5 245 mi_J6_stringSize_0f7a4 := Or.inl (tb5 (i := 43) (by decide +kernel) rfl)
theorem lm_J5_248 : LM RJ5 248 mi_J6_getChars_ba4f3 := Or.inl (tb5 (i := 46) (by decide +kernel) rfl)
theorem cu_J5_397 {d : Nat} (hd : 2 + 1 ≤ d) : cUn mi_J5_inflateIfNeededFor_a7421 RJ5 397 d 2 1 ⟨"java/lang/AbstractStringBuilder", "inflateIfNeededFor", "(Ljava/lang/String;)V"⟩ "java/lang/StringBuilder" := ⟨⟨tb4 (i := 130) (by decide +kernel) rfl, tb1 (i := 21) (by decide +kernel) rfl, hd, by decide⟩, ⟨tb4 (i := 127) (by decide +kernel) rfl, tb9 (i := 118) (by decide +kernel) rfl, TBs (by decide +kernel), tb4 (i := 129) (by decide +kernel) rfl⟩, Or.inl rfl, by decide, by decide, by decide +kernel⟩
theorem lm_J5_399 : LM RJ5 399 mi_J0_getBytes_840e7 := Or.inl (tb4 (i := 150) (by decide +kernel) rfl)
theorem lm_J0_54 : LM RJ0 54 mi_J7_copyOfRange_39247 := Or.inl (tb5 (i := 6) (by decide +kernel) rfl)
theorem lm_J0_212 : Cond.methodLink RJ0 212 arraycopyName ∈ TB := tb4 (i := 154) (by decide +kernel) rfl
theorem lm_J0_335 : LM RJ0 335 mi_J0_coder_7d493 := Or.inl (tb1 (i := 80) (by decide +kernel) rfl)
theorem lm_J0_489 : LM RJ0 489 mi_J0_init_db425 := Or.inl (tb4 (i := 228) (by decide +kernel) rfl)
theorem lm_J0_492 : LM RJ0 492 mi_J0_isLatin1_aae02 := Or.inl (tb1 (i := 90) (by decide +kernel) rfl)
theorem lm_J0_495 : LM RJ0 495 mi_J1_charAt_3b067 := Or.inl (tb1 (i := 94) (by decide +kernel) rfl)
theorem lm_J0_505 : LM RJ0 505 mi_J0_length_8abf5 := Or.inl (tb6 (i := 118) (by decide +kernel) rfl)
theorem cu_J0_549 {d : Nat} (hd : 2 + 1 ≤ d) : cUn mi_J4_length_8abf5 RJ0 549 d 2 0 ⟨"java/lang/AbstractStringBuilder", "length", "()I"⟩ "java/lang/StringBuilder" := ⟨⟨tb5 (i := 2) (by decide +kernel) rfl, tb1 (i := 22) (by decide +kernel) rfl, hd, by decide⟩, ⟨tb4 (i := 237) (by decide +kernel) rfl, tb4 (i := 239) (by decide +kernel) rfl, tb5 (i := 0) (by decide +kernel) rfl, tb5 (i := 1) (by decide +kernel) rfl⟩, Or.inr ⟨tb4 (i := 238) (by decide +kernel) rfl, _, _, _, tb5 (i := 4) rfl rfl⟩, by decide, by decide, by decide +kernel⟩
theorem cu_J0_552 {d : Nat} (hd : 1 + 1 ≤ d) : cUn mi_J5_getValue_6d5f1 RJ0 552 d 1 0 ⟨"java/lang/AbstractStringBuilder", "getValue", "()[B"⟩ "java/lang/StringBuilder" := ⟨⟨tb4 (i := 236) (by decide +kernel) rfl, tb1 (i := 21) (by decide +kernel) rfl, hd, by decide⟩, ⟨tb4 (i := 232) (by decide +kernel) rfl, tb4 (i := 234) (by decide +kernel) rfl, tb4 (i := 235) (by decide +kernel) rfl, tb4 (i := 233) (by decide +kernel) rfl⟩, Or.inl rfl, by decide, by decide, by decide +kernel⟩
theorem lm_J0_633 : LM RJ0 633 mi_J0_indexOf_7cf53 := Or.inl (tb6 (i := 114) (by decide +kernel) rfl)
theorem lm_J0_637 : LM RJ0 637 mi_J1_indexOf_4cfef := Or.inl (tb6 (i := 119) (by decide +kernel) rfl)
theorem cu_J0_1047 {d : Nat} (hd : 1 + 1 ≤ d) : cUn mi_J5_isLatin1_aae02 RJ0 1047 d 1 0 ⟨"java/lang/AbstractStringBuilder", "isLatin1", "()Z"⟩ "java/lang/StringBuilder" := ⟨⟨tb4 (i := 106) (by decide +kernel) rfl, tb1 (i := 21) (by decide +kernel) rfl, hd, by decide⟩, ⟨tb5 (i := 5) (by decide +kernel) rfl, tb4 (i := 104) (by decide +kernel) rfl, tb4 (i := 105) (by decide +kernel) rfl, tb4 (i := 103) (by decide +kernel) rfl⟩, Or.inl rfl, by decide, by decide, by decide +kernel⟩
theorem lm_J0_1059 : LM RJ0 1059 mi_J3_checkIndex_8e157 := Or.inl (tb1 (i := 102) (by decide +kernel) rfl)
theorem lm_J4_1 : LM RJ4 1 mi_J5_init_d00df := Or.inl (tb4 (i := 198) (by decide +kernel) rfl)
theorem lm_J4_7 : LM RJ4 7 mi_J5_init_a7421 := Or.inl (tb4 (i := 38) (by decide +kernel) rfl)
theorem lm_J4_23 : LM RJ4 23 mi_J4_append_15ec4 := Or.inl (tb4 (i := 59) (by decide +kernel) rfl)
theorem cp_J4_29 {d : Nat} (hd : 4 + 1 ≤ d) : cSUn mi_J5_append_cf1ce RJ4 29 d 4 1 := ⟨⟨tb4 (i := 65) (by decide +kernel) rfl, tb1 (i := 21) (by decide +kernel) rfl, hd, by decide⟩, ⟨tb4 (i := 63) (by decide +kernel) rfl, tb4 (i := 55) (by decide +kernel) rfl, tb4 (i := 64) (by decide +kernel) rfl, tb4 (i := 54) (by decide +kernel) rfl⟩, by decide, by decide +kernel⟩
theorem cp_J4_50 {d : Nat} (hd : 4 + 1 ≤ d) : cSUn mi_J5_append_3fe6f RJ4 50 d 4 1 := ⟨⟨tb4 (i := 212) (by decide +kernel) rfl, tb1 (i := 21) (by decide +kernel) rfl, hd, by decide⟩, ⟨tb4 (i := 210) (by decide +kernel) rfl, tb9 (i := 120) (by decide +kernel) rfl, tb4 (i := 64) (by decide +kernel) rfl, tb4 (i := 211) (by decide +kernel) rfl⟩, by decide, by decide +kernel⟩
theorem cp_J4_53 {d : Nat} (hd : 4 + 1 ≤ d) : cSUn mi_J5_append_c97b9 RJ4 53 d 4 1 := ⟨⟨tb5 (i := 42) (by decide +kernel) rfl, tb1 (i := 21) (by decide +kernel) rfl, hd, by decide⟩, ⟨tb5 (i := 40) (by decide +kernel) rfl, tb9 (i := 121) (by decide +kernel) rfl, tb4 (i := 64) (by decide +kernel) rfl, tb5 (i := 41) (by decide +kernel) rfl⟩, by decide, by decide +kernel⟩
theorem lm_J4_137 : LM RJ4 137 mi_J0_init_81219 := Or.inl (tb4 (i := 225) (by decide +kernel) rfl)
theorem cp_J4_343 {d : Nat} (hd : 1 + 1 ≤ d) : cSUn mi_J5_length_8abf5 RJ4 343 d 1 0 := ⟨⟨tb5 (i := 4) (by decide +kernel) rfl, tb1 (i := 21) (by decide +kernel) rfl, hd, by decide⟩, ⟨tb5 (i := 3) (by decide +kernel) rfl, tb4 (i := 239) (by decide +kernel) rfl, tb4 (i := 64) (by decide +kernel) rfl, tb4 (i := 238) (by decide +kernel) rfl⟩, by decide, by decide +kernel⟩
theorem lm_J1_9 : LM RJ1 9 mi_J0_checkIndex_df160 := Or.inl (tb1 (i := 97) (by decide +kernel) rfl)
theorem lm_J1_38 : Cond.methodLink RJ1 38 Lib.Math.min.name ∈ TB := tb6 (i := 126) (by decide +kernel) rfl
theorem lm_J1_88 : LM RJ1 88 mi_J1_canEncode_9a6ad := Or.inl (tb6 (i := 122) (by decide +kernel) rfl)
theorem lm_J1_92 : Cond.methodLink RJ1 92 Lib.Math.max.name ∈ TB := tb6 (i := 125) (by decide +kernel) rfl
theorem lm_J1_95 : LM RJ1 95 mi_J1_indexOfChar_4cfef := Or.inl (tb6 (i := 127) (by decide +kernel) rfl)
theorem lm_Jxc12de_1 : LM RJxc12de 1 mi_Jxa1e45_init_da8c8 := Or.inl (tb3 (i := 182) (by decide +kernel) rfl)
theorem lm_Jx4a65c_1 : LM RJx4a65c 1 mi_Jxc12de_init_da8c8 := Or.inl (tb3 (i := 179) (by decide +kernel) rfl)
theorem lm_Jx4a65c_69 : LM RJx4a65c 69 mi_Jx4a65c_grow_92f84 := Or.inl (tb5 (i := 100) (by decide +kernel) rfl)
theorem lm_Jx4a65c_73 : LM RJx4a65c 73 mi_J8_newLength_cabcc := Or.inl (tb5 (i := 104) (by decide +kernel) rfl)
theorem lm_Jx4a65c_79 : Cond.methodLink RJx4a65c 79 Lib.Math.max.name ∈ TB := tb5 (i := 138) (by decide +kernel) rfl
theorem lm_Jx4a65c_118 : LM RJx4a65c 118 mi_J15_checkIndex_7cf53 := Or.inl (tb5 (i := 208) (by decide +kernel) rfl)
theorem lm_Jx4a65c_123 : LM RJx4a65c 123 mi_Jx4a65c_elementData_915e3 := Or.inl (tb5 (i := 212) (by decide +kernel) rfl)
theorem lm_Jx4a65c_129 : LM RJx4a65c 129 mi_Jx4a65c_grow_d5877 := Or.inl (tb5 (i := 96) (by decide +kernel) rfl)
theorem lm_Jx4a65c_131 : LM RJx4a65c 131 mi_Jx4a65c_add_72be8 := Or.inl (tb5 (i := 92) (by decide +kernel) rfl)
theorem lm_Jx4a65c_144 : LM RJx4a65c 144 mi_Jx4a65c_fastRemove_b59b0 := Or.inl (tb6 (i := 4) (by decide +kernel) rfl)
theorem lm_Jx4a65c_269 : LM RJx4a65c 269 mi_Jx35411_init_45d68 := Or.inl (tb5 (i := 154) (by decide +kernel) rfl)
theorem lm_Jx35411_31 : LM RJx35411 31 mi_Jx35411_checkForComodification_da8c8 := Or.inl (tb5 (i := 190) (by decide +kernel) rfl)
theorem lm_J7_150 : Cond.methodLink RJ7 150 arraycopyName ∈ TB := tb4 (i := 99) (by decide +kernel) rfl
theorem lm_J7_304 : Cond.methodLink RJ7 304 Lib.Math.min.name ∈ TB := tb4 (i := 96) (by decide +kernel) rfl
theorem lm_J7_339 : LM RJ7 339 mi_J7_copyOfRangeByte_39247 := Or.inl (tb5 (i := 9) (by decide +kernel) rfl)
theorem lm_J7_343 : LM RJ7 343 mi_J7_checkLength_df160 := Or.inl (tb5 (i := 12) (by decide +kernel) rfl)
theorem lm_J15_105 : LM RJ15 105 mi_J3_checkIndex_8e157 := Or.inl (tb5 (i := 211) (by decide +kernel) rfl)
theorem lm_J8_194 : Cond.methodLink RJ8 194 Lib.Math.max.name ∈ TB := tb4 (i := 81) (by decide +kernel) rfl
theorem ac_I : Cond.arrayClass .int ∈ TB := tb1 (i := 65) (by decide +kernel) rfl
theorem ac_J : Cond.arrayClass .long ∈ TB := tb1 (i := 178) (by decide +kernel) rfl
theorem ac_Z : Cond.arrayClass .boolean ∈ TB := tb4 (i := 2) (by decide +kernel) rfl
theorem ac_B : Cond.arrayClass .byte ∈ TB := tb1 (i := 149) (by decide +kernel) rfl
theorem nw_X11_7 : NWk RX11 7 RX7 2 tyX7 := ⟨tb1 (i := 50) (by decide +kernel) rfl, tb1 (i := 51) (by decide +kernel) rfl, tb1 (i := 2) (by decide +kernel) rfl, by decide⟩
theorem nw_X11_16 : NWk RX11 16 RX8 5 tyX8 := ⟨tb1 (i := 66) (by decide +kernel) rfl, tb1 (i := 67) (by decide +kernel) rfl, tb1 (i := 3) (by decide +kernel) rfl, by decide⟩
theorem nw_X11_23 : NWk RX11 23 RX4 7 tyX4 := ⟨tb1 (i := 150) (by decide +kernel) rfl, tb1 (i := 151) (by decide +kernel) rfl, tb1 (i := 8) (by decide +kernel) rfl, by decide⟩
theorem nw_X11_30 : NWk RX11 30 RX1 20 tyX1 := ⟨tb1 (i := 179) (by decide +kernel) rfl, tb1 (i := 180) (by decide +kernel) rfl, tb1 (i := 9) (by decide +kernel) rfl, by decide⟩
theorem nw_X11_40 : NWk RX11 40 RX5 15 tyX5 := ⟨tb2 (i := 49) (by decide +kernel) rfl, tb2 (i := 50) (by decide +kernel) rfl, tb1 (i := 11) (by decide +kernel) rfl, by decide⟩
theorem nw_X11_50 : NWk RX11 50 RX2 9 tyX2 := ⟨tb2 (i := 113) (by decide +kernel) rfl, tb2 (i := 114) (by decide +kernel) rfl, tb1 (i := 12) (by decide +kernel) rfl, by decide⟩
theorem nw_X11_59 : NWk RX11 59 RX0 5 tyX0 := ⟨tb2 (i := 151) (by decide +kernel) rfl, tb2 (i := 152) (by decide +kernel) rfl, tb1 (i := 13) (by decide +kernel) rfl, by decide⟩
theorem nw_X11_66 : NWk RX11 66 RX10 1 tyX10 := ⟨tb2 (i := 177) (by decide +kernel) rfl, tb1 (i := 186) (by decide +kernel) rfl, tb1 (i := 10) (by decide +kernel) rfl, by decide⟩
theorem nw_X11_79 : NWk RX11 79 RX9 5 tyX9 := ⟨tb2 (i := 179) (by decide +kernel) rfl, tb2 (i := 180) (by decide +kernel) rfl, tb1 (i := 14) (by decide +kernel) rfl, by decide⟩
theorem nw_X11_86 : NWk RX11 86 RX3 5 tyX3 := ⟨tb2 (i := 206) (by decide +kernel) rfl, tb2 (i := 207) (by decide +kernel) rfl, tb1 (i := 15) (by decide +kernel) rfl, by decide⟩
theorem nw_X11_93 : NWk RX11 93 RX6 6 tyX6 := ⟨tb2 (i := 230) (by decide +kernel) rfl, tb2 (i := 231) (by decide +kernel) rfl, tb1 (i := 16) (by decide +kernel) rfl, by decide⟩
theorem nw_X0_9 : NWk RX0 9 RX5 15 tyX5 := ⟨tb2 (i := 157) (by decide +kernel) rfl, tb2 (i := 50) (by decide +kernel) rfl, tb1 (i := 11) (by decide +kernel) rfl, by decide⟩
theorem nw_X1_42 : NWk RX1 42 RX10 1 tyX10 := ⟨tb1 (i := 185) (by decide +kernel) rfl, tb1 (i := 186) (by decide +kernel) rfl, tb1 (i := 10) (by decide +kernel) rfl, by decide⟩
theorem nw_X2_9 : NWk RX2 9 RX10 1 tyX10 := ⟨tb2 (i := 119) (by decide +kernel) rfl, tb1 (i := 186) (by decide +kernel) rfl, tb1 (i := 10) (by decide +kernel) rfl, by decide⟩
theorem nw_L_7 : NWk RL 7 RX11 18 tyX11 := ⟨tb1 (i := 44) (by decide +kernel) rfl, tb1 (i := 45) (by decide +kernel) rfl, tb1 (i := 1) (by decide +kernel) rfl, by decide⟩
theorem nw_L_11 : NWk RL 11 RL 12 tyL := ⟨tb1 (i := 36) (by decide +kernel) rfl, tb1 (i := 37) (by decide +kernel) rfl, tb1 (i := 0) (by decide +kernel) rfl, by decide⟩
theorem nw_L_20 : NWk RL 20 RJx4a65c 3 tyJx4a65c := ⟨tb3 (i := 174) (by decide +kernel) rfl, tb3 (i := 175) (by decide +kernel) rfl, tb1 (i := 19) (by decide +kernel) rfl, by decide⟩
theorem nw_L_78 : NWk RL 78 RX13 3 tyX13 := ⟨tb5 (i := 71) (by decide +kernel) rfl, tb5 (i := 72) (by decide +kernel) rfl, tb1 (i := 29) (by decide +kernel) rfl, by decide⟩
theorem nw_L_114 : NWk RL 114 RX14 5 tyX14 := ⟨tb4 (i := 172) (by decide +kernel) rfl, tb4 (i := 173) (by decide +kernel) rfl, tb1 (i := 26) (by decide +kernel) rfl, by decide⟩
theorem nw_L_127 : NWk RL 127 RJ4 4 tyJ4 := ⟨tb4 (i := 26) (by decide +kernel) rfl, tb4 (i := 27) (by decide +kernel) rfl, tb1 (i := 22) (by decide +kernel) rfl, by decide⟩
theorem nw_L_213 : NWk RL 213 RX12 9 tyX12 := ⟨tb6 (i := 19) (by decide +kernel) rfl, tb6 (i := 20) (by decide +kernel) rfl, tb1 (i := 32) (by decide +kernel) rfl, by decide⟩
theorem nw_X13_32 : NWk RX13 32 RJ4 4 tyJ4 := ⟨tb5 (i := 220) (by decide +kernel) rfl, tb4 (i := 27) (by decide +kernel) rfl, tb1 (i := 22) (by decide +kernel) rfl, by decide⟩
theorem nw_X14_16 : NWk RX14 16 RJx4a65c 3 tyJx4a65c := ⟨tb4 (i := 178) (by decide +kernel) rfl, tb3 (i := 175) (by decide +kernel) rfl, tb1 (i := 19) (by decide +kernel) rfl, by decide⟩
theorem nw_J4_18 : NWk RJ4 18 RJ0 4 tyJ0 := ⟨tb4 (i := 223) (by decide +kernel) rfl, tb4 (i := 224) (by decide +kernel) rfl, tb1 (i := 4) (by decide +kernel) rfl, by decide⟩
theorem nw_Jx4a65c_267 : NWk RJx4a65c 267 RJx35411 4 tyJx35411 := ⟨tb5 (i := 152) (by decide +kernel) rfl, tb5 (i := 153) (by decide +kernel) rfl, tb1 (i := 30) (by decide +kernel) rfl, by decide⟩
theorem na_X0_9 : Cond.classLink RX0 9 RX5 ∈ TB := tb2 (i := 157) (by decide +kernel) rfl
theorem na_X1_42 : Cond.classLink RX1 42 RX10 ∈ TB := tb1 (i := 185) (by decide +kernel) rfl
theorem na_L_78 : Cond.classLink RL 78 RX13 ∈ TB := tb5 (i := 71) (by decide +kernel) rfl
theorem na_Jx4a65c_7 : Cond.classLink RJx4a65c 7 "java/lang/Object" ∈ TB := tb5 (i := 139) (by decide +kernel) rfl
theorem cl_L_78 : Cond.classLink RL 78 RX13 ∈ TB := tb5 (i := 71) (by decide +kernel) rfl
theorem cb_J7_311 : Cond.classLink RJ7 311 "[B" ∈ TB := tb4 (i := 95) (by decide +kernel) rfl
theorem mz_L_27 : Cond.classLink RL 27 "[[Z" ∈ TB := tb3 (i := 203) (by decide +kernel) rfl
theorem ncl_J7_310 : Ncl RJ7 310 := ⟨tb4 (i := 89) (by decide +kernel) rfl, tb4 (i := 90) (by decide +kernel) rfl, tb4 (i := 91) (by decide +kernel) rfl, tb4 (i := 92) (by decide +kernel) rfl, tb4 (i := 93) (by decide +kernel) rfl⟩
theorem lo_X11_1 : Cond.methodLink RX11 1 Lib.objectInit ∈ TB ∧ Cond.instanceMethod Lib.objectInit ∈ TB ∧ Cond.code Lib.objectInit ⟨#[0xb1]⟩ 1 none ∈ TB := ⟨tb1 (i := 49) (by decide +kernel) rfl, tb1 (i := 42) (by decide +kernel) rfl, tb1 (i := 43) (by decide +kernel) rfl⟩
theorem lo_X0_3 : Cond.methodLink RX0 3 Lib.objectInit ∈ TB ∧ Cond.instanceMethod Lib.objectInit ∈ TB ∧ Cond.code Lib.objectInit ⟨#[0xb1]⟩ 1 none ∈ TB := ⟨tb2 (i := 156) (by decide +kernel) rfl, tb1 (i := 42) (by decide +kernel) rfl, tb1 (i := 43) (by decide +kernel) rfl⟩
theorem lo_X1_5 : Cond.methodLink RX1 5 Lib.objectInit ∈ TB ∧ Cond.instanceMethod Lib.objectInit ∈ TB ∧ Cond.code Lib.objectInit ⟨#[0xb1]⟩ 1 none ∈ TB := ⟨tb1 (i := 184) (by decide +kernel) rfl, tb1 (i := 42) (by decide +kernel) rfl, tb1 (i := 43) (by decide +kernel) rfl⟩
theorem lo_X2_3 : Cond.methodLink RX2 3 Lib.objectInit ∈ TB ∧ Cond.instanceMethod Lib.objectInit ∈ TB ∧ Cond.code Lib.objectInit ⟨#[0xb1]⟩ 1 none ∈ TB := ⟨tb2 (i := 118) (by decide +kernel) rfl, tb1 (i := 42) (by decide +kernel) rfl, tb1 (i := 43) (by decide +kernel) rfl⟩
theorem lo_X3_3 : Cond.methodLink RX3 3 Lib.objectInit ∈ TB ∧ Cond.instanceMethod Lib.objectInit ∈ TB ∧ Cond.code Lib.objectInit ⟨#[0xb1]⟩ 1 none ∈ TB := ⟨tb2 (i := 211) (by decide +kernel) rfl, tb1 (i := 42) (by decide +kernel) rfl, tb1 (i := 43) (by decide +kernel) rfl⟩
theorem lo_X4_3 : Cond.methodLink RX4 3 Lib.objectInit ∈ TB ∧ Cond.instanceMethod Lib.objectInit ∈ TB ∧ Cond.code Lib.objectInit ⟨#[0xb1]⟩ 1 none ∈ TB := ⟨tb1 (i := 155) (by decide +kernel) rfl, tb1 (i := 42) (by decide +kernel) rfl, tb1 (i := 43) (by decide +kernel) rfl⟩
theorem lo_X5_3 : Cond.methodLink RX5 3 Lib.objectInit ∈ TB ∧ Cond.instanceMethod Lib.objectInit ∈ TB ∧ Cond.code Lib.objectInit ⟨#[0xb1]⟩ 1 none ∈ TB := ⟨tb2 (i := 54) (by decide +kernel) rfl, tb1 (i := 42) (by decide +kernel) rfl, tb1 (i := 43) (by decide +kernel) rfl⟩
theorem lo_X6_3 : Cond.methodLink RX6 3 Lib.objectInit ∈ TB ∧ Cond.instanceMethod Lib.objectInit ∈ TB ∧ Cond.code Lib.objectInit ⟨#[0xb1]⟩ 1 none ∈ TB := ⟨tb2 (i := 235) (by decide +kernel) rfl, tb1 (i := 42) (by decide +kernel) rfl, tb1 (i := 43) (by decide +kernel) rfl⟩
theorem lo_X7_3 : Cond.methodLink RX7 3 Lib.objectInit ∈ TB ∧ Cond.instanceMethod Lib.objectInit ∈ TB ∧ Cond.code Lib.objectInit ⟨#[0xb1]⟩ 1 none ∈ TB := ⟨tb1 (i := 55) (by decide +kernel) rfl, tb1 (i := 42) (by decide +kernel) rfl, tb1 (i := 43) (by decide +kernel) rfl⟩
theorem lo_X8_3 : Cond.methodLink RX8 3 Lib.objectInit ∈ TB ∧ Cond.instanceMethod Lib.objectInit ∈ TB ∧ Cond.code Lib.objectInit ⟨#[0xb1]⟩ 1 none ∈ TB := ⟨tb1 (i := 71) (by decide +kernel) rfl, tb1 (i := 42) (by decide +kernel) rfl, tb1 (i := 43) (by decide +kernel) rfl⟩
theorem lo_X9_3 : Cond.methodLink RX9 3 Lib.objectInit ∈ TB ∧ Cond.instanceMethod Lib.objectInit ∈ TB ∧ Cond.code Lib.objectInit ⟨#[0xb1]⟩ 1 none ∈ TB := ⟨tb2 (i := 184) (by decide +kernel) rfl, tb1 (i := 42) (by decide +kernel) rfl, tb1 (i := 43) (by decide +kernel) rfl⟩
theorem lo_X10_3 : Cond.methodLink RX10 3 Lib.objectInit ∈ TB ∧ Cond.instanceMethod Lib.objectInit ∈ TB ∧ Cond.code Lib.objectInit ⟨#[0xb1]⟩ 1 none ∈ TB := ⟨tb1 (i := 190) (by decide +kernel) rfl, tb1 (i := 42) (by decide +kernel) rfl, tb1 (i := 43) (by decide +kernel) rfl⟩
theorem lo_L_1 : Cond.methodLink RL 1 Lib.objectInit ∈ TB ∧ Cond.instanceMethod Lib.objectInit ∈ TB ∧ Cond.code Lib.objectInit ⟨#[0xb1]⟩ 1 none ∈ TB := ⟨tb1 (i := 41) (by decide +kernel) rfl, tb1 (i := 42) (by decide +kernel) rfl, tb1 (i := 43) (by decide +kernel) rfl⟩
theorem lo_X12_1 : Cond.methodLink RX12 1 Lib.objectInit ∈ TB ∧ Cond.instanceMethod Lib.objectInit ∈ TB ∧ Cond.code Lib.objectInit ⟨#[0xb1]⟩ 1 none ∈ TB := ⟨tb6 (i := 24) (by decide +kernel) rfl, tb1 (i := 42) (by decide +kernel) rfl, tb1 (i := 43) (by decide +kernel) rfl⟩
theorem lo_X13_1 : Cond.methodLink RX13 1 Lib.objectInit ∈ TB ∧ Cond.instanceMethod Lib.objectInit ∈ TB ∧ Cond.code Lib.objectInit ⟨#[0xb1]⟩ 1 none ∈ TB := ⟨tb5 (i := 76) (by decide +kernel) rfl, tb1 (i := 42) (by decide +kernel) rfl, tb1 (i := 43) (by decide +kernel) rfl⟩
theorem lo_X14_1 : Cond.methodLink RX14 1 Lib.objectInit ∈ TB ∧ Cond.instanceMethod Lib.objectInit ∈ TB ∧ Cond.code Lib.objectInit ⟨#[0xb1]⟩ 1 none ∈ TB := ⟨tb4 (i := 177) (by decide +kernel) rfl, tb1 (i := 42) (by decide +kernel) rfl, tb1 (i := 43) (by decide +kernel) rfl⟩
theorem lo_J5_3 : Cond.methodLink RJ5 3 Lib.objectInit ∈ TB ∧ Cond.instanceMethod Lib.objectInit ∈ TB ∧ Cond.code Lib.objectInit ⟨#[0xb1]⟩ 1 none ∈ TB := ⟨tb4 (i := 41) (by decide +kernel) rfl, tb1 (i := 42) (by decide +kernel) rfl, tb1 (i := 43) (by decide +kernel) rfl⟩
theorem lo_J0_1 : Cond.methodLink RJ0 1 Lib.objectInit ∈ TB ∧ Cond.instanceMethod Lib.objectInit ∈ TB ∧ Cond.code Lib.objectInit ⟨#[0xb1]⟩ 1 none ∈ TB := ⟨tb4 (i := 231) (by decide +kernel) rfl, tb1 (i := 42) (by decide +kernel) rfl, tb1 (i := 43) (by decide +kernel) rfl⟩
theorem lo_Jxa1e45_1 : Cond.methodLink RJxa1e45 1 Lib.objectInit ∈ TB ∧ Cond.instanceMethod Lib.objectInit ∈ TB ∧ Cond.code Lib.objectInit ⟨#[0xb1]⟩ 1 none ∈ TB := ⟨tb3 (i := 185) (by decide +kernel) rfl, tb1 (i := 42) (by decide +kernel) rfl, tb1 (i := 43) (by decide +kernel) rfl⟩
theorem lo_Jx35411_7 : Cond.methodLink RJx35411 7 Lib.objectInit ∈ TB ∧ Cond.instanceMethod Lib.objectInit ∈ TB ∧ Cond.code Lib.objectInit ⟨#[0xb1]⟩ 1 none ∈ TB := ⟨tb5 (i := 157) (by decide +kernel) rfl, tb1 (i := 42) (by decide +kernel) rfl, tb1 (i := 43) (by decide +kernel) rfl⟩
theorem gz_2 : ∀ (w : Wd) (U : State) (H : Heap), roOk w U H → va_Z "StruckCounts$Worlds" "SO" "[J" (vR w 2) (wArea w) U H := fun w U H h => h.2.1
theorem gz_4 : ∀ (w : Wd) (U : State) (H : Heap), roOk w U H → va_Z "java/util/ArrayList" "DEFAULTCAPACITY_EMPTY_ELEMENTDATA" "[Ljava/lang/Object;" (vR w 4) (wArea w) U H := fun w U H h => h.2.2.1.1
theorem gz_5 : ∀ (w : Wd) (U : State) (H : Heap), roOk w U H → va_Z "java/lang/Integer" "DigitTens" "[B" (vR w 5) (wArea w) U H := fun w U H h => h.2.2.1.2.2.1
theorem gz_6 : ∀ (w : Wd) (U : State) (H : Heap), roOk w U H → va_Z "java/lang/Integer" "DigitOnes" "[B" (vR w 6) (wArea w) U H := fun w U H h => h.2.2.1.2.2.2.2.1
theorem nat_ac : Cond.native arraycopyName ∈ TB ∧ Cond.static arraycopyName ∈ TB ∧ Cond.initialized "java/lang/System" ∈ TB := ⟨tb4 (i := 101) (by decide +kernel) rfl, tb4 (i := 100) (by decide +kernel) rfl, tb1 (i := 25) (by decide +kernel) rfl⟩
theorem nat_dl : Cond.native ⟨"java/lang/Double", "doubleToRawLongBits", "(D)J"⟩ ∈ TB ∧ Cond.static ⟨"java/lang/Double", "doubleToRawLongBits", "(D)J"⟩ ∈ TB ∧ Cond.initialized "java/lang/Double" ∈ TB := ⟨tb9 (i := 30) (by decide +kernel) rfl, tb9 (i := 29) (by decide +kernel) rfl, tb1 (i := 35) (by decide +kernel) rfl⟩
theorem nat_ld : Cond.native ⟨"java/lang/Double", "longBitsToDouble", "(J)D"⟩ ∈ TB ∧ Cond.static ⟨"java/lang/Double", "longBitsToDouble", "(J)D"⟩ ∈ TB ∧ Cond.initialized "java/lang/Double" ∈ TB := ⟨tb9 (i := 34) (by decide +kernel) rfl, tb9 (i := 33) (by decide +kernel) rfl, tb1 (i := 35) (by decide +kernel) rfl⟩
theorem fw_Jx35411_hasNext_aae02 : ∀ (w : Wd) (U : State) (H : Heap), roOk w U H → va_Fw "java/util/ArrayList$Itr" ⟨"java/util/Iterator", "hasNext", "()Z"⟩ mi_Jx35411_hasNext_aae02.1 U := fun w U H h => h.2.2.1.2.2.2.2.2.2.2.2.2.1
theorem fw_Jx35411_next_0502b : ∀ (w : Wd) (U : State) (H : Heap), roOk w U H → va_Fw "java/util/ArrayList$Itr" ⟨"java/util/Iterator", "next", "()Ljava/lang/Object;"⟩ mi_Jx35411_next_0502b.1 U := fun w U H h => h.2.2.1.2.2.2.2.2.2.2.2.2.2.1
theorem kd_L_358 : Cond.constantDouble RL 358 (4472406533629990549 : UInt64) ∈ TB := tb9 (i := 24) (by decide +kernel) rfl
theorem gs_X10_15 : Cond.fieldLink RX10 15 "StruckCounts$Worlds" "SO" "[J" ∈ TB ∨ ∃ host, Cond.fieldLinkNest RX10 15 "StruckCounts$Worlds" "SO" "[J" host ∈ NW := Or.inl (tb3 (i := 50) (by decide +kernel) rfl)
theorem gs_J6_83 : Cond.fieldLink RJ6 83 "java/lang/Integer" "DigitOnes" "[B" ∈ TB ∨ ∃ host, Cond.fieldLinkNest RJ6 83 "java/lang/Integer" "DigitOnes" "[B" host ∈ NW := Or.inl (tb5 (i := 49) (by decide +kernel) rfl)
theorem gs_J6_87 : Cond.fieldLink RJ6 87 "java/lang/Integer" "DigitTens" "[B" ∈ TB ∨ ∃ host, Cond.fieldLinkNest RJ6 87 "java/lang/Integer" "DigitTens" "[B" host ∈ NW := Or.inl (tb5 (i := 51) (by decide +kernel) rfl)
theorem gs_Jx4a65c_39 : Cond.fieldLink RJx4a65c 39 "java/util/ArrayList" "DEFAULTCAPACITY_EMPTY_ELEMENTDATA" "[Ljava/lang/Object;" ∈ TB ∨ ∃ host, Cond.fieldLinkNest RJx4a65c 39 "java/util/ArrayList" "DEFAULTCAPACITY_EMPTY_ELEMENTDATA" "[Ljava/lang/Object;" host ∈ NW := Or.inl (tb3 (i := 186) (by decide +kernel) rfl)
theorem lsf_J5_18 : Cond.fieldLink RJ5 18 "java/lang/String" "COMPACT_STRINGS" "Z" ∈ TB := tb4 (i := 107) (by decide +kernel) rfl
theorem lsf_J0_9 : Cond.fieldLink RJ0 9 "java/lang/String" "value" "[B" ∈ TB := tb5 (i := 25) (by decide +kernel) rfl
theorem lsf_J0_15 : Cond.fieldLink RJ0 15 "java/lang/String" "coder" "B" ∈ TB := tb5 (i := 26) (by decide +kernel) rfl
theorem lsf_J0_38 : Cond.fieldLink RJ0 38 "java/lang/String" "COMPACT_STRINGS" "Z" ∈ TB := tb1 (i := 84) (by decide +kernel) rfl
theorem lsf_J0_1053 : Cond.fieldLink RJ0 1053 "jdk/internal/util/Preconditions" "SIOOBE_FORMATTER" "Ljava/util/function/BiFunction;" ∈ TB := tb1 (i := 100) (by decide +kernel) rfl
theorem kc_X11_359 : Cond.constant RX11 359 (2147483647 : Int32) ∈ TB := tb7 (i := 191) (by decide +kernel) rfl
theorem kc_L_35 : Cond.constant RL 35 (-1640531535 : Int32) ∈ TB := tb4 (i := 17) (by decide +kernel) rfl
theorem kc_L_36 : Cond.constant RL 36 (-2048144789 : Int32) ∈ TB := tb4 (i := 18) (by decide +kernel) rfl
theorem kc_L_54 : Cond.constant RL 54 (668265263 : Int32) ∈ TB := tb4 (i := 19) (by decide +kernel) rfl
theorem kc_L_55 : Cond.constant RL 55 (739982445 : Int32) ∈ TB := tb4 (i := 20) (by decide +kernel) rfl
theorem kc_L_56 : Cond.constant RL 56 (2147483647 : Int32) ∈ TB := tb4 (i := 21) (by decide +kernel) rfl
theorem kc_J5_38 : Cond.constant RJ5 38 (2147483631 : Int32) ∈ TB := tb4 (i := 43) (by decide +kernel) rfl
theorem kc_J5_39 : Cond.constant RJ5 39 (2147483647 : Int32) ∈ TB := tb4 (i := 44) (by decide +kernel) rfl
theorem kc_J6_265 : Cond.constant RJ6 265 (1431655765 : Int32) ∈ TB := tb7 (i := 143) (by decide +kernel) rfl
theorem kc_J6_266 : Cond.constant RJ6 266 (858993459 : Int32) ∈ TB := tb7 (i := 144) (by decide +kernel) rfl
theorem kc_J6_267 : Cond.constant RJ6 267 (252645135 : Int32) ∈ TB := tb7 (i := 145) (by decide +kernel) rfl
theorem kc_J8_200 : Cond.constant RJ8 200 (2147483639 : Int32) ∈ TB := tb4 (i := 82) (by decide +kernel) rfl
theorem kl_X11_321 : Cond.constantLong RX11 321 (2147483647 : Int64) ∈ TB := tb9 (i := 43) (by decide +kernel) rfl
theorem kl_X11_323 : Cond.constantLong RX11 323 (10 : Int64) ∈ TB := tb9 (i := 44) (by decide +kernel) rfl
theorem kl_X11_375 : Cond.constantLong RX11 375 (-1 : Int64) ∈ TB := tb9 (i := 98) (by decide +kernel) rfl
theorem kl_X4_89 : Cond.constantLong RX4 89 (-1 : Int64) ∈ TB := tb3 (i := 74) (by decide +kernel) rfl
theorem kl_X10_18 : Cond.constantLong RX10 18 (-1 : Int64) ∈ TB := tb3 (i := 31) (by decide +kernel) rfl
theorem kl_J13_314 : Cond.constantLong RJ13 314 (6148914691236517205 : Int64) ∈ TB := tb7 (i := 15) (by decide +kernel) rfl
theorem kl_J13_316 : Cond.constantLong RJ13 316 (3689348814741910323 : Int64) ∈ TB := tb7 (i := 16) (by decide +kernel) rfl
theorem kl_J13_318 : Cond.constantLong RJ13 318 (1085102592571150095 : Int64) ∈ TB := tb7 (i := 17) (by decide +kernel) rfl
