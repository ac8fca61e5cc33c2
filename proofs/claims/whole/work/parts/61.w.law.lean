theorem q_244 : Cond.methodLink RL 13 yX6_row ∈ lwG := tw2 4 rfl rfl
theorem q_247 : Cond.code yX6_row cX6_row 4 (some .int) ∈ lwG := tw2 7 rfl rfl
theorem q_245 : Cond.instanceMethod yX6_row ∈ lwG := tw2 5 rfl rfl
theorem q_246 : Cond.selects RX6 yX6_row yX6_row ∈ lwG := tw2 6 rfl rfl
theorem mVX6_row : MV yX6_row cX6_row 4 (some .int) 3 := ⟨⟨q_247, q_1, by decide +kernel, by decide +kernel, by decide +kernel⟩, q_245, q_246⟩
theorem q_957 : Cond.methodLink RL 17 yX7_row ∈ lwG := tw4 237 rfl rfl
theorem q_960 : Cond.code yX7_row cX7_row 5 (some .int) ∈ lwG := tw5 0 rfl rfl
theorem q_958 : Cond.instanceMethod yX7_row ∈ lwG := tw4 238 rfl rfl
theorem q_959 : Cond.selects RX7 yX7_row yX7_row ∈ lwG := tw4 239 rfl rfl
theorem mVX7_row : MV yX7_row cX7_row 5 (some .int) 3 := ⟨⟨q_960, q_9, by decide +kernel, by decide +kernel, by decide +kernel⟩, q_958, q_959⟩
theorem q_1300 : Cond.constantLong RL 18 (4294967295 : Int64) ∈ lwG := tw6 100 rfl rfl
theorem q_265 : Cond.methodLink RL 20 yX6_set ∈ lwG := tw2 25 rfl rfl
theorem q_268 : Cond.code yX6_set cX6_set 6 (some .int) ∈ lwG := tw2 28 rfl rfl
theorem q_266 : Cond.instanceMethod yX6_set ∈ lwG := tw2 26 rfl rfl
theorem q_267 : Cond.selects RX6 yX6_set yX6_set ∈ lwG := tw2 27 rfl rfl
theorem mVX6_set : MV yX6_set cX6_set 6 (some .int) 3 := ⟨⟨q_268, q_1, by decide +kernel, by decide +kernel, by decide +kernel⟩, q_266, q_267⟩
theorem q_971 : Cond.methodLink RL 24 yX7_set ∈ lwG := tw5 11 rfl rfl
theorem q_974 : Cond.code yX7_set cX7_set 5 (some .int) ∈ lwG := tw5 14 rfl rfl
theorem q_972 : Cond.instanceMethod yX7_set ∈ lwG := tw5 12 rfl rfl
theorem q_973 : Cond.selects RX7 yX7_set yX7_set ∈ lwG := tw5 13 rfl rfl
theorem mVX7_set : MV yX7_set cX7_set 5 (some .int) 3 := ⟨⟨q_974, q_9, by decide +kernel, by decide +kernel, by decide +kernel⟩, q_972, q_973⟩
theorem q_297 : Cond.methodLink RL 25 yX6_copy ∈ lwG := tw2 57 rfl rfl
theorem q_300 : Cond.code yX6_copy cX6_copy 7 (some .int) ∈ lwG := tw2 60 rfl rfl
theorem q_298 : Cond.instanceMethod yX6_copy ∈ lwG := tw2 58 rfl rfl
theorem q_299 : Cond.selects RX6 yX6_copy yX6_copy ∈ lwG := tw2 59 rfl rfl
theorem mVX6_copy : MV yX6_copy cX6_copy 7 (some .int) 5 := ⟨⟨q_300, q_1, by decide +kernel, by decide +kernel, by decide +kernel⟩, q_298, q_299⟩
theorem q_978 : Cond.methodLink RL 29 yX7_copy ∈ lwG := tw5 18 rfl rfl
theorem q_981 : Cond.code yX7_copy cX7_copy 7 (some .int) ∈ lwG := tw5 21 rfl rfl
theorem q_979 : Cond.instanceMethod yX7_copy ∈ lwG := tw5 19 rfl rfl
theorem q_980 : Cond.selects RX7 yX7_copy yX7_copy ∈ lwG := tw5 20 rfl rfl
theorem mVX7_copy : MV yX7_copy cX7_copy 7 (some .int) 5 := ⟨⟨q_981, q_9, by decide +kernel, by decide +kernel, by decide +kernel⟩, q_979, q_980⟩
theorem q_316 : Cond.methodLink RL 30 yX6_element ∈ lwG := tw2 76 rfl rfl
theorem q_319 : Cond.code yX6_element cX6_element 3 (some .long) ∈ lwG := tw2 79 rfl rfl
theorem q_317 : Cond.instanceMethod yX6_element ∈ lwG := tw2 77 rfl rfl
theorem q_318 : Cond.selects RX6 yX6_element yX6_element ∈ lwG := tw2 78 rfl rfl
theorem mVX6_element : MV yX6_element cX6_element 3 (some .long) 2 := ⟨⟨q_319, q_1, by decide +kernel, by decide +kernel, by decide +kernel⟩, q_317, q_318⟩
theorem q_982 : Cond.methodLink RL 34 yX7_element ∈ lwG := tw5 22 rfl rfl
theorem q_985 : Cond.code yX7_element cX7_element 3 (some .long) ∈ lwG := tw5 25 rfl rfl
theorem q_983 : Cond.instanceMethod yX7_element ∈ lwG := tw5 23 rfl rfl
theorem q_984 : Cond.selects RX7 yX7_element yX7_element ∈ lwG := tw5 24 rfl rfl
theorem mVX7_element : MV yX7_element cX7_element 3 (some .long) 2 := ⟨⟨q_985, q_9, by decide +kernel, by decide +kernel, by decide +kernel⟩, q_983, q_984⟩
theorem q_325 : Cond.methodLink RL 35 yX6_holds ∈ lwG := tw2 85 rfl rfl
theorem q_328 : Cond.code yX6_holds cX6_holds 2 (some .int) ∈ lwG := tw2 88 rfl rfl
theorem q_326 : Cond.instanceMethod yX6_holds ∈ lwG := tw2 86 rfl rfl
theorem q_327 : Cond.selects RX6 yX6_holds yX6_holds ∈ lwG := tw2 87 rfl rfl
theorem mVX6_holds : MV yX6_holds cX6_holds 2 (some .int) 1 := ⟨⟨q_328, q_1, by decide +kernel, by decide +kernel, by decide +kernel⟩, q_326, q_327⟩
theorem q_986 : Cond.methodLink RL 39 yX7_holds ∈ lwG := tw5 26 rfl rfl
theorem q_989 : Cond.code yX7_holds cX7_holds 2 (some .int) ∈ lwG := tw5 29 rfl rfl
theorem q_987 : Cond.instanceMethod yX7_holds ∈ lwG := tw5 27 rfl rfl
theorem q_988 : Cond.selects RX7 yX7_holds yX7_holds ∈ lwG := tw5 28 rfl rfl
theorem mVX7_holds : MV yX7_holds cX7_holds 2 (some .int) 1 := ⟨⟨q_989, q_9, by decide +kernel, by decide +kernel, by decide +kernel⟩, q_987, q_988⟩
theorem q_330 : Cond.methodLink RL 40 yX6_rule ∈ lwG := tw2 90 rfl rfl
theorem q_333 : Cond.code yX6_rule cX6_rule 4 (some .int) ∈ lwG := tw2 93 rfl rfl
theorem q_331 : Cond.instanceMethod yX6_rule ∈ lwG := tw2 91 rfl rfl
theorem q_332 : Cond.selects RX6 yX6_rule yX6_rule ∈ lwG := tw2 92 rfl rfl
theorem mVX6_rule : MV yX6_rule cX6_rule 4 (some .int) 3 := ⟨⟨q_333, q_1, by decide +kernel, by decide +kernel, by decide +kernel⟩, q_331, q_332⟩
theorem q_990 : Cond.methodLink RL 43 yX7_rule ∈ lwG := tw5 30 rfl rfl
theorem q_993 : Cond.code yX7_rule cX7_rule 4 (some .int) ∈ lwG := tw5 33 rfl rfl
theorem q_991 : Cond.instanceMethod yX7_rule ∈ lwG := tw5 31 rfl rfl
theorem q_992 : Cond.selects RX7 yX7_rule yX7_rule ∈ lwG := tw5 32 rfl rfl
theorem mVX7_rule : MV yX7_rule cX7_rule 4 (some .int) 3 := ⟨⟨q_993, q_9, by decide +kernel, by decide +kernel, by decide +kernel⟩, q_991, q_992⟩
theorem q_338 : Cond.methodLink RL 44 yX6_says ∈ lwG := tw2 98 rfl rfl
theorem q_341 : Cond.code yX6_says cX6_says 4 (some .int) ∈ lwG := tw2 101 rfl rfl
theorem q_339 : Cond.instanceMethod yX6_says ∈ lwG := tw2 99 rfl rfl
theorem q_340 : Cond.selects RX6 yX6_says yX6_says ∈ lwG := tw2 100 rfl rfl
theorem mVX6_says : MV yX6_says cX6_says 4 (some .int) 2 := ⟨⟨q_341, q_1, by decide +kernel, by decide +kernel, by decide +kernel⟩, q_339, q_340⟩
theorem q_996 : Cond.methodLink RL 48 yX7_says ∈ lwG := tw5 36 rfl rfl
theorem q_999 : Cond.code yX7_says cX7_says 5 (some .int) ∈ lwG := tw5 39 rfl rfl
theorem q_997 : Cond.instanceMethod yX7_says ∈ lwG := tw5 37 rfl rfl
theorem q_998 : Cond.selects RX7 yX7_says yX7_says ∈ lwG := tw5 38 rfl rfl
theorem mVX7_says : MV yX7_says cX7_says 5 (some .int) 2 := ⟨⟨q_999, q_9, by decide +kernel, by decide +kernel, by decide +kernel⟩, q_997, q_998⟩
theorem q_412 : Cond.methodLink RL 49 yX6_debt ∈ lwG := tw2 172 rfl rfl
theorem q_415 : Cond.code yX6_debt cX6_debt 7 (some .int) ∈ lwG := tw2 175 rfl rfl
theorem q_413 : Cond.instanceMethod yX6_debt ∈ lwG := tw2 173 rfl rfl
theorem q_414 : Cond.selects RX6 yX6_debt yX6_debt ∈ lwG := tw2 174 rfl rfl
theorem mVX6_debt : MV yX6_debt cX6_debt 7 (some .int) 6 := ⟨⟨q_415, q_1, by decide +kernel, by decide +kernel, by decide +kernel⟩, q_413, q_414⟩
theorem q_1031 : Cond.methodLink RL 53 yX7_debt ∈ lwG := tw5 71 rfl rfl
theorem q_1034 : Cond.code yX7_debt cX7_debt 8 (some .int) ∈ lwG := tw5 74 rfl rfl
theorem q_1032 : Cond.instanceMethod yX7_debt ∈ lwG := tw5 72 rfl rfl
theorem q_1033 : Cond.selects RX7 yX7_debt yX7_debt ∈ lwG := tw5 73 rfl rfl
theorem mVX7_debt : MV yX7_debt cX7_debt 8 (some .int) 6 := ⟨⟨q_1034, q_9, by decide +kernel, by decide +kernel, by decide +kernel⟩, q_1032, q_1033⟩
theorem q_431 : Cond.methodLink RL 54 yX6_debtOf ∈ lwG := tw2 191 rfl rfl
theorem q_434 : Cond.code yX6_debtOf cX6_debtOf 3 (some .int) ∈ lwG := tw2 194 rfl rfl
theorem q_432 : Cond.instanceMethod yX6_debtOf ∈ lwG := tw2 192 rfl rfl
theorem q_433 : Cond.selects RX6 yX6_debtOf yX6_debtOf ∈ lwG := tw2 193 rfl rfl
theorem mVX6_debtOf : MV yX6_debtOf cX6_debtOf 3 (some .int) 2 := ⟨⟨q_434, q_1, by decide +kernel, by decide +kernel, by decide +kernel⟩, q_432, q_433⟩
theorem q_1046 : Cond.methodLink RL 57 yX7_debtOf ∈ lwG := tw5 86 rfl rfl
theorem q_1049 : Cond.code yX7_debtOf cX7_debtOf 3 (some .int) ∈ lwG := tw5 89 rfl rfl
theorem q_1047 : Cond.instanceMethod yX7_debtOf ∈ lwG := tw5 87 rfl rfl
theorem q_1048 : Cond.selects RX7 yX7_debtOf yX7_debtOf ∈ lwG := tw5 88 rfl rfl
theorem mVX7_debtOf : MV yX7_debtOf cX7_debtOf 3 (some .int) 2 := ⟨⟨q_1049, q_9, by decide +kernel, by decide +kernel, by decide +kernel⟩, q_1047, q_1048⟩
theorem q_439 : Cond.methodLink RL 58 yX6_alter ∈ lwG := tw2 199 rfl rfl
theorem q_442 : Cond.code yX6_alter cX6_alter 5 (some .int) ∈ lwG := tw2 202 rfl rfl
theorem q_440 : Cond.instanceMethod yX6_alter ∈ lwG := tw2 200 rfl rfl
theorem q_441 : Cond.selects RX6 yX6_alter yX6_alter ∈ lwG := tw2 201 rfl rfl
theorem mVX6_alter : MV yX6_alter cX6_alter 5 (some .int) 3 := ⟨⟨q_442, q_1, by decide +kernel, by decide +kernel, by decide +kernel⟩, q_440, q_441⟩
theorem q_1055 : Cond.methodLink RL 61 yX7_alter ∈ lwG := tw5 95 rfl rfl
theorem q_1058 : Cond.code yX7_alter cX7_alter 5 (some .int) ∈ lwG := tw5 98 rfl rfl
theorem q_1056 : Cond.instanceMethod yX7_alter ∈ lwG := tw5 96 rfl rfl
theorem q_1057 : Cond.selects RX7 yX7_alter yX7_alter ∈ lwG := tw5 97 rfl rfl
theorem mVX7_alter : MV yX7_alter cX7_alter 5 (some .int) 3 := ⟨⟨q_1058, q_9, by decide +kernel, by decide +kernel, by decide +kernel⟩, q_1056, q_1057⟩
theorem q_443 : Cond.methodLink RL 62 yX6_income ∈ lwG := tw2 203 rfl rfl
theorem q_446 : Cond.code yX6_income cX6_income 4 (some .int) ∈ lwG := tw2 206 rfl rfl
theorem q_444 : Cond.instanceMethod yX6_income ∈ lwG := tw2 204 rfl rfl
theorem q_445 : Cond.selects RX6 yX6_income yX6_income ∈ lwG := tw2 205 rfl rfl
theorem mVX6_income : MV yX6_income cX6_income 4 (some .int) 2 := ⟨⟨q_446, q_1, by decide +kernel, by decide +kernel, by decide +kernel⟩, q_444, q_445⟩
theorem q_1060 : Cond.methodLink RL 65 yX7_income ∈ lwG := tw5 100 rfl rfl
theorem q_1063 : Cond.code yX7_income cX7_income 4 (some .int) ∈ lwG := tw5 103 rfl rfl
theorem q_1061 : Cond.instanceMethod yX7_income ∈ lwG := tw5 101 rfl rfl
theorem q_1062 : Cond.selects RX7 yX7_income yX7_income ∈ lwG := tw5 102 rfl rfl
theorem mVX7_income : MV yX7_income cX7_income 4 (some .int) 2 := ⟨⟨q_1063, q_9, by decide +kernel, by decide +kernel, by decide +kernel⟩, q_1061, q_1062⟩
theorem q_447 : Cond.methodLink RL 66 yX6_ask ∈ lwG := tw2 207 rfl rfl
theorem q_450 : Cond.code yX6_ask cX6_ask 4 (some .int) ∈ lwG := tw2 210 rfl rfl
theorem q_448 : Cond.instanceMethod yX6_ask ∈ lwG := tw2 208 rfl rfl
theorem q_449 : Cond.selects RX6 yX6_ask yX6_ask ∈ lwG := tw2 209 rfl rfl
theorem mVX6_ask : MV yX6_ask cX6_ask 4 (some .int) 2 := ⟨⟨q_450, q_1, by decide +kernel, by decide +kernel, by decide +kernel⟩, q_448, q_449⟩
theorem q_1065 : Cond.methodLink RL 69 yX7_ask ∈ lwG := tw5 105 rfl rfl
theorem q_1068 : Cond.code yX7_ask cX7_ask 4 (some .int) ∈ lwG := tw5 108 rfl rfl
theorem q_1066 : Cond.instanceMethod yX7_ask ∈ lwG := tw5 106 rfl rfl
theorem q_1067 : Cond.selects RX7 yX7_ask yX7_ask ∈ lwG := tw5 107 rfl rfl
theorem mVX7_ask : MV yX7_ask cX7_ask 4 (some .int) 2 := ⟨⟨q_1068, q_9, by decide +kernel, by decide +kernel, by decide +kernel⟩, q_1066, q_1067⟩
theorem q_451 : Cond.methodLink RL 70 yX6_feed ∈ lwG := tw2 211 rfl rfl
theorem q_454 : Cond.code yX6_feed cX6_feed 3 (some .int) ∈ lwG := tw2 214 rfl rfl
theorem q_452 : Cond.instanceMethod yX6_feed ∈ lwG := tw2 212 rfl rfl
theorem q_453 : Cond.selects RX6 yX6_feed yX6_feed ∈ lwG := tw2 213 rfl rfl
theorem mVX6_feed : MV yX6_feed cX6_feed 3 (some .int) 2 := ⟨⟨q_454, q_1, by decide +kernel, by decide +kernel, by decide +kernel⟩, q_452, q_453⟩
theorem q_1072 : Cond.methodLink RL 73 yX7_feed ∈ lwG := tw5 112 rfl rfl
theorem q_1075 : Cond.code yX7_feed cX7_feed 4 (some .int) ∈ lwG := tw5 115 rfl rfl
theorem q_1073 : Cond.instanceMethod yX7_feed ∈ lwG := tw5 113 rfl rfl
theorem q_1074 : Cond.selects RX7 yX7_feed yX7_feed ∈ lwG := tw5 114 rfl rfl
theorem mVX7_feed : MV yX7_feed cX7_feed 4 (some .int) 2 := ⟨⟨q_1075, q_9, by decide +kernel, by decide +kernel, by decide +kernel⟩, q_1073, q_1074⟩
theorem q_467 : Cond.methodLink RL 74 yX6_wipe ∈ lwG := tw2 227 rfl rfl
theorem q_470 : Cond.code yX6_wipe cX6_wipe 2 (some .int) ∈ lwG := tw2 230 rfl rfl
theorem q_468 : Cond.instanceMethod yX6_wipe ∈ lwG := tw2 228 rfl rfl
theorem q_469 : Cond.selects RX6 yX6_wipe yX6_wipe ∈ lwG := tw2 229 rfl rfl
theorem mVX6_wipe : MV yX6_wipe cX6_wipe 2 (some .int) 0 := ⟨⟨q_470, q_1, by decide +kernel, by decide +kernel, by decide +kernel⟩, q_468, q_469⟩
theorem q_1076 : Cond.methodLink RL 78 yX7_wipe ∈ lwG := tw5 116 rfl rfl
theorem q_1079 : Cond.code yX7_wipe cX7_wipe 2 (some .int) ∈ lwG := tw5 119 rfl rfl
theorem q_1077 : Cond.instanceMethod yX7_wipe ∈ lwG := tw5 117 rfl rfl
theorem q_1078 : Cond.selects RX7 yX7_wipe yX7_wipe ∈ lwG := tw5 118 rfl rfl
theorem mVX7_wipe : MV yX7_wipe cX7_wipe 2 (some .int) 0 := ⟨⟨q_1079, q_9, by decide +kernel, by decide +kernel, by decide +kernel⟩, q_1077, q_1078⟩
theorem q_475 : Cond.methodLink RL 79 yX6_life ∈ lwG := tw2 235 rfl rfl
theorem q_478 : Cond.code yX6_life cX6_life 2 (some .int) ∈ lwG := tw2 238 rfl rfl
theorem q_476 : Cond.instanceMethod yX6_life ∈ lwG := tw2 236 rfl rfl
theorem q_477 : Cond.selects RX6 yX6_life yX6_life ∈ lwG := tw2 237 rfl rfl
theorem mVX6_life : MV yX6_life cX6_life 2 (some .int) 0 := ⟨⟨q_478, q_1, by decide +kernel, by decide +kernel, by decide +kernel⟩, q_476, q_477⟩
theorem q_1080 : Cond.methodLink RL 82 yX7_life ∈ lwG := tw5 120 rfl rfl
theorem q_1083 : Cond.code yX7_life cX7_life 6 (some .int) ∈ lwG := tw5 123 rfl rfl
theorem q_1081 : Cond.instanceMethod yX7_life ∈ lwG := tw5 121 rfl rfl
theorem q_1082 : Cond.selects RX7 yX7_life yX7_life ∈ lwG := tw5 122 rfl rfl
theorem mVX7_life : MV yX7_life cX7_life 6 (some .int) 0 := ⟨⟨q_1083, q_9, by decide +kernel, by decide +kernel, by decide +kernel⟩, q_1081, q_1082⟩
theorem q_600 : Cond.methodLink RL 83 yX6_grows ∈ lwG := tw3 120 rfl rfl
theorem q_603 : Cond.code yX6_grows cX6_grows 2 (some .int) ∈ lwG := tw3 123 rfl rfl
theorem q_601 : Cond.instanceMethod yX6_grows ∈ lwG := tw3 121 rfl rfl
theorem q_602 : Cond.selects RX6 yX6_grows yX6_grows ∈ lwG := tw3 122 rfl rfl
theorem mVX6_grows : MV yX6_grows cX6_grows 2 (some .int) 1 := ⟨⟨q_603, q_1, by decide +kernel, by decide +kernel, by decide +kernel⟩, q_601, q_602⟩
theorem q_1136 : Cond.methodLink RL 86 yX7_grows ∈ lwG := tw5 176 rfl rfl
theorem q_1139 : Cond.code yX7_grows cX7_grows 2 (some .int) ∈ lwG := tw5 179 rfl rfl
theorem q_1137 : Cond.instanceMethod yX7_grows ∈ lwG := tw5 177 rfl rfl
theorem q_1138 : Cond.selects RX7 yX7_grows yX7_grows ∈ lwG := tw5 178 rfl rfl
theorem mVX7_grows : MV yX7_grows cX7_grows 2 (some .int) 1 := ⟨⟨q_1139, q_9, by decide +kernel, by decide +kernel, by decide +kernel⟩, q_1137, q_1138⟩
theorem q_605 : Cond.methodLink RL 87 yX6_bites ∈ lwG := tw3 125 rfl rfl
theorem q_608 : Cond.code yX6_bites cX6_bites 2 (some .int) ∈ lwG := tw3 128 rfl rfl
theorem q_606 : Cond.instanceMethod yX6_bites ∈ lwG := tw3 126 rfl rfl
theorem q_607 : Cond.selects RX6 yX6_bites yX6_bites ∈ lwG := tw3 127 rfl rfl
theorem mVX6_bites : MV yX6_bites cX6_bites 2 (some .int) 1 := ⟨⟨q_608, q_1, by decide +kernel, by decide +kernel, by decide +kernel⟩, q_606, q_607⟩
theorem q_1140 : Cond.methodLink RL 90 yX7_bites ∈ lwG := tw5 180 rfl rfl
theorem q_1143 : Cond.code yX7_bites cX7_bites 5 (some .int) ∈ lwG := tw5 183 rfl rfl
theorem q_1141 : Cond.instanceMethod yX7_bites ∈ lwG := tw5 181 rfl rfl
theorem q_1142 : Cond.selects RX7 yX7_bites yX7_bites ∈ lwG := tw5 182 rfl rfl
theorem mVX7_bites : MV yX7_bites cX7_bites 5 (some .int) 1 := ⟨⟨q_1143, q_9, by decide +kernel, by decide +kernel, by decide +kernel⟩, q_1141, q_1142⟩
theorem q_622 : Cond.methodLink RL 91 yX6_pays ∈ lwG := tw3 142 rfl rfl
theorem q_625 : Cond.code yX6_pays cX6_pays 4 (some .int) ∈ lwG := tw3 145 rfl rfl
theorem q_623 : Cond.instanceMethod yX6_pays ∈ lwG := tw3 143 rfl rfl
theorem q_624 : Cond.selects RX6 yX6_pays yX6_pays ∈ lwG := tw3 144 rfl rfl
theorem mVX6_pays : MV yX6_pays cX6_pays 4 (some .int) 2 := ⟨⟨q_625, q_1, by decide +kernel, by decide +kernel, by decide +kernel⟩, q_623, q_624⟩
theorem q_1144 : Cond.methodLink RL 94 yX7_pays ∈ lwG := tw5 184 rfl rfl
theorem q_1147 : Cond.code yX7_pays cX7_pays 4 (some .int) ∈ lwG := tw5 187 rfl rfl
theorem q_1145 : Cond.instanceMethod yX7_pays ∈ lwG := tw5 185 rfl rfl
theorem q_1146 : Cond.selects RX7 yX7_pays yX7_pays ∈ lwG := tw5 186 rfl rfl
theorem mVX7_pays : MV yX7_pays cX7_pays 4 (some .int) 2 := ⟨⟨q_1147, q_9, by decide +kernel, by decide +kernel, by decide +kernel⟩, q_1145, q_1146⟩
theorem q_648 : Cond.methodLink RL 95 yX6_weeks ∈ lwG := tw3 168 rfl rfl
theorem q_651 : Cond.code yX6_weeks cX6_weeks 6 (some .int) ∈ lwG := tw3 171 rfl rfl
theorem q_649 : Cond.instanceMethod yX6_weeks ∈ lwG := tw3 169 rfl rfl
theorem q_650 : Cond.selects RX6 yX6_weeks yX6_weeks ∈ lwG := tw3 170 rfl rfl
theorem mVX6_weeks : MV yX6_weeks cX6_weeks 6 (some .int) 2 := ⟨⟨q_651, q_1, by decide +kernel, by decide +kernel, by decide +kernel⟩, q_649, q_650⟩
theorem q_1156 : Cond.methodLink RL 98 yX7_weeks ∈ lwG := tw5 196 rfl rfl
theorem q_1159 : Cond.code yX7_weeks cX7_weeks 6 (some .int) ∈ lwG := tw5 199 rfl rfl
theorem q_1157 : Cond.instanceMethod yX7_weeks ∈ lwG := tw5 197 rfl rfl
theorem q_1158 : Cond.selects RX7 yX7_weeks yX7_weeks ∈ lwG := tw5 198 rfl rfl
theorem mVX7_weeks : MV yX7_weeks cX7_weeks 6 (some .int) 2 := ⟨⟨q_1159, q_9, by decide +kernel, by decide +kernel, by decide +kernel⟩, q_1157, q_1158⟩
theorem q_668 : Cond.methodLink RL 99 yX6_pay ∈ lwG := tw3 188 rfl rfl
theorem q_671 : Cond.code yX6_pay cX6_pay 4 (some .int) ∈ lwG := tw3 191 rfl rfl
theorem q_669 : Cond.instanceMethod yX6_pay ∈ lwG := tw3 189 rfl rfl
theorem q_670 : Cond.selects RX6 yX6_pay yX6_pay ∈ lwG := tw3 190 rfl rfl
theorem mVX6_pay : MV yX6_pay cX6_pay 4 (some .int) 1 := ⟨⟨q_671, q_1, by decide +kernel, by decide +kernel, by decide +kernel⟩, q_669, q_670⟩
theorem q_1170 : Cond.methodLink RL 102 yX7_pay ∈ lwG := tw5 210 rfl rfl
theorem q_1173 : Cond.code yX7_pay cX7_pay 3 (some .int) ∈ lwG := tw5 213 rfl rfl
theorem q_1171 : Cond.instanceMethod yX7_pay ∈ lwG := tw5 211 rfl rfl
theorem q_1172 : Cond.selects RX7 yX7_pay yX7_pay ∈ lwG := tw5 212 rfl rfl
theorem mVX7_pay : MV yX7_pay cX7_pay 3 (some .int) 1 := ⟨⟨q_1173, q_9, by decide +kernel, by decide +kernel, by decide +kernel⟩, q_1171, q_1172⟩
theorem q_677 : Cond.methodLink RL 103 yX6_judge ∈ lwG := tw3 197 rfl rfl
theorem q_680 : Cond.code yX6_judge cX6_judge 3 (some .int) ∈ lwG := tw3 200 rfl rfl
theorem q_678 : Cond.instanceMethod yX6_judge ∈ lwG := tw3 198 rfl rfl
theorem q_679 : Cond.selects RX6 yX6_judge yX6_judge ∈ lwG := tw3 199 rfl rfl
theorem mVX6_judge : MV yX6_judge cX6_judge 3 (some .int) 1 := ⟨⟨q_680, q_1, by decide +kernel, by decide +kernel, by decide +kernel⟩, q_678, q_679⟩
theorem q_1182 : Cond.methodLink RL 106 yX7_judge ∈ lwG := tw5 222 rfl rfl
theorem q_1185 : Cond.code yX7_judge cX7_judge 3 (some .int) ∈ lwG := tw5 225 rfl rfl
theorem q_1183 : Cond.instanceMethod yX7_judge ∈ lwG := tw5 223 rfl rfl
theorem q_1184 : Cond.selects RX7 yX7_judge yX7_judge ∈ lwG := tw5 224 rfl rfl
theorem mVX7_judge : MV yX7_judge cX7_judge 3 (some .int) 1 := ⟨⟨q_1185, q_9, by decide +kernel, by decide +kernel, by decide +kernel⟩, q_1183, q_1184⟩
theorem q_681 : Cond.methodLink RL 107 yX6_run ∈ lwG := tw3 201 rfl rfl
theorem q_684 : Cond.code yX6_run cX6_run 5 (some .int) ∈ lwG := tw3 204 rfl rfl
theorem q_682 : Cond.instanceMethod yX6_run ∈ lwG := tw3 202 rfl rfl
theorem q_683 : Cond.selects RX6 yX6_run yX6_run ∈ lwG := tw3 203 rfl rfl
theorem mVX6_run : MV yX6_run cX6_run 5 (some .int) 3 := ⟨⟨q_684, q_1, by decide +kernel, by decide +kernel, by decide +kernel⟩, q_682, q_683⟩
theorem q_1186 : Cond.methodLink RL 110 yX7_run ∈ lwG := tw5 226 rfl rfl
theorem q_1189 : Cond.code yX7_run cX7_run 6 (some .int) ∈ lwG := tw5 229 rfl rfl
theorem q_1187 : Cond.instanceMethod yX7_run ∈ lwG := tw5 227 rfl rfl
theorem q_1188 : Cond.selects RX7 yX7_run yX7_run ∈ lwG := tw5 228 rfl rfl
theorem mVX7_run : MV yX7_run cX7_run 6 (some .int) 3 := ⟨⟨q_1189, q_9, by decide +kernel, by decide +kernel, by decide +kernel⟩, q_1187, q_1188⟩
theorem q_715 : Cond.methodLink RL 111 yX6_head ∈ lwG := tw3 235 rfl rfl
theorem q_718 : Cond.code yX6_head cX6_head 5 (some .int) ∈ lwG := tw3 238 rfl rfl
theorem q_716 : Cond.instanceMethod yX6_head ∈ lwG := tw3 236 rfl rfl
theorem q_717 : Cond.selects RX6 yX6_head yX6_head ∈ lwG := tw3 237 rfl rfl
theorem mVX6_head : MV yX6_head cX6_head 5 (some .int) 1 := ⟨⟨q_718, q_1, by decide +kernel, by decide +kernel, by decide +kernel⟩, q_716, q_717⟩
theorem q_1216 : Cond.methodLink RL 114 yX7_head ∈ lwG := tw6 16 rfl rfl
theorem q_1219 : Cond.code yX7_head cX7_head 6 (some .int) ∈ lwG := tw6 19 rfl rfl
theorem q_1217 : Cond.instanceMethod yX7_head ∈ lwG := tw6 17 rfl rfl
theorem q_1218 : Cond.selects RX7 yX7_head yX7_head ∈ lwG := tw6 18 rfl rfl
theorem mVX7_head : MV yX7_head cX7_head 6 (some .int) 1 := ⟨⟨q_1219, q_9, by decide +kernel, by decide +kernel, by decide +kernel⟩, q_1217, q_1218⟩
theorem q_719 : Cond.methodLink RL 115 yX6_best ∈ lwG := tw3 239 rfl rfl
theorem q_722 : Cond.code yX6_best cX6_best 3 (some .int) ∈ lwG := tw4 2 rfl rfl
theorem q_720 : Cond.instanceMethod yX6_best ∈ lwG := tw4 0 rfl rfl
theorem q_721 : Cond.selects RX6 yX6_best yX6_best ∈ lwG := tw4 1 rfl rfl
theorem mVX6_best : MV yX6_best cX6_best 3 (some .int) 2 := ⟨⟨q_722, q_1, by decide +kernel, by decide +kernel, by decide +kernel⟩, q_720, q_721⟩
theorem q_1220 : Cond.methodLink RL 118 yX7_best ∈ lwG := tw6 20 rfl rfl
theorem q_1223 : Cond.code yX7_best cX7_best 3 (some .int) ∈ lwG := tw6 23 rfl rfl
theorem q_1221 : Cond.instanceMethod yX7_best ∈ lwG := tw6 21 rfl rfl
theorem q_1222 : Cond.selects RX7 yX7_best yX7_best ∈ lwG := tw6 22 rfl rfl
theorem mVX7_best : MV yX7_best cX7_best 3 (some .int) 2 := ⟨⟨q_1223, q_9, by decide +kernel, by decide +kernel, by decide +kernel⟩, q_1221, q_1222⟩
theorem q_762 : Cond.methodLink RL 119 yX6_lose ∈ lwG := tw4 42 rfl rfl
theorem q_765 : Cond.code yX6_lose cX6_lose 4 (some .int) ∈ lwG := tw4 45 rfl rfl
theorem q_763 : Cond.instanceMethod yX6_lose ∈ lwG := tw4 43 rfl rfl
theorem q_764 : Cond.selects RX6 yX6_lose yX6_lose ∈ lwG := tw4 44 rfl rfl
theorem mVX6_lose : MV yX6_lose cX6_lose 4 (some .int) 2 := ⟨⟨q_765, q_1, by decide +kernel, by decide +kernel, by decide +kernel⟩, q_763, q_764⟩
theorem q_1241 : Cond.methodLink RL 122 yX7_lose ∈ lwG := tw6 41 rfl rfl
theorem q_1244 : Cond.code yX7_lose cX7_lose 4 (some .int) ∈ lwG := tw6 44 rfl rfl
theorem q_1242 : Cond.instanceMethod yX7_lose ∈ lwG := tw6 42 rfl rfl
theorem q_1243 : Cond.selects RX7 yX7_lose yX7_lose ∈ lwG := tw6 43 rfl rfl
theorem mVX7_lose : MV yX7_lose cX7_lose 4 (some .int) 2 := ⟨⟨q_1244, q_9, by decide +kernel, by decide +kernel, by decide +kernel⟩, q_1242, q_1243⟩
theorem q_766 : Cond.methodLink RL 123 yX6_write ∈ lwG := tw4 46 rfl rfl
theorem q_769 : Cond.code yX6_write cX6_write 3 (some .int) ∈ lwG := tw4 49 rfl rfl
theorem q_767 : Cond.instanceMethod yX6_write ∈ lwG := tw4 47 rfl rfl
theorem q_768 : Cond.selects RX6 yX6_write yX6_write ∈ lwG := tw4 48 rfl rfl
theorem mVX6_write : MV yX6_write cX6_write 3 (some .int) 1 := ⟨⟨q_769, q_1, by decide +kernel, by decide +kernel, by decide +kernel⟩, q_767, q_768⟩
theorem q_1245 : Cond.methodLink RL 126 yX7_write ∈ lwG := tw6 45 rfl rfl
theorem q_1248 : Cond.code yX7_write cX7_write 3 (some .int) ∈ lwG := tw6 48 rfl rfl
theorem q_1246 : Cond.instanceMethod yX7_write ∈ lwG := tw6 46 rfl rfl
theorem q_1247 : Cond.selects RX7 yX7_write yX7_write ∈ lwG := tw6 47 rfl rfl
theorem mVX7_write : MV yX7_write cX7_write 3 (some .int) 1 := ⟨⟨q_1248, q_9, by decide +kernel, by decide +kernel, by decide +kernel⟩, q_1246, q_1247⟩
theorem q_778 : Cond.methodLink RL 127 yX6_quiet ∈ lwG := tw4 58 rfl rfl
theorem q_781 : Cond.code yX6_quiet cX6_quiet 7 (some .int) ∈ lwG := tw4 61 rfl rfl
theorem q_779 : Cond.instanceMethod yX6_quiet ∈ lwG := tw4 59 rfl rfl
theorem q_780 : Cond.selects RX6 yX6_quiet yX6_quiet ∈ lwG := tw4 60 rfl rfl
theorem mVX6_quiet : MV yX6_quiet cX6_quiet 7 (some .int) 2 := ⟨⟨q_781, q_1, by decide +kernel, by decide +kernel, by decide +kernel⟩, q_779, q_780⟩
theorem q_1249 : Cond.methodLink RL 130 yX7_quiet ∈ lwG := tw6 49 rfl rfl
theorem q_1252 : Cond.code yX7_quiet cX7_quiet 8 (some .int) ∈ lwG := tw6 52 rfl rfl
theorem q_1250 : Cond.instanceMethod yX7_quiet ∈ lwG := tw6 50 rfl rfl
theorem q_1251 : Cond.selects RX7 yX7_quiet yX7_quiet ∈ lwG := tw6 51 rfl rfl
theorem mVX7_quiet : MV yX7_quiet cX7_quiet 8 (some .int) 2 := ⟨⟨q_1252, q_9, by decide +kernel, by decide +kernel, by decide +kernel⟩, q_1250, q_1251⟩
theorem q_782 : Cond.methodLink RL 131 yX6_offer ∈ lwG := tw4 62 rfl rfl
theorem q_785 : Cond.code yX6_offer cX6_offer 8 (some .int) ∈ lwG := tw4 65 rfl rfl
theorem q_783 : Cond.instanceMethod yX6_offer ∈ lwG := tw4 63 rfl rfl
theorem q_784 : Cond.selects RX6 yX6_offer yX6_offer ∈ lwG := tw4 64 rfl rfl
theorem mVX6_offer : MV yX6_offer cX6_offer 8 (some .int) 4 := ⟨⟨q_785, q_1, by decide +kernel, by decide +kernel, by decide +kernel⟩, q_783, q_784⟩
theorem q_1253 : Cond.methodLink RL 135 yX7_offer ∈ lwG := tw6 53 rfl rfl
theorem q_1256 : Cond.code yX7_offer cX7_offer 8 (some .int) ∈ lwG := tw6 56 rfl rfl
theorem q_1254 : Cond.instanceMethod yX7_offer ∈ lwG := tw6 54 rfl rfl
theorem q_1255 : Cond.selects RX7 yX7_offer yX7_offer ∈ lwG := tw6 55 rfl rfl
theorem mVX7_offer : MV yX7_offer cX7_offer 8 (some .int) 4 := ⟨⟨q_1256, q_9, by decide +kernel, by decide +kernel, by decide +kernel⟩, q_1254, q_1255⟩
theorem q_788 : Cond.methodLink RL 136 yX6_one ∈ lwG := tw4 68 rfl rfl
theorem q_791 : Cond.code yX6_one cX6_one 5 (some .int) ∈ lwG := tw4 71 rfl rfl
theorem q_789 : Cond.instanceMethod yX6_one ∈ lwG := tw4 69 rfl rfl
theorem q_790 : Cond.selects RX6 yX6_one yX6_one ∈ lwG := tw4 70 rfl rfl
theorem mVX6_one : MV yX6_one cX6_one 5 (some .int) 3 := ⟨⟨q_791, q_1, by decide +kernel, by decide +kernel, by decide +kernel⟩, q_789, q_790⟩
theorem q_1258 : Cond.methodLink RL 139 yX7_one ∈ lwG := tw6 58 rfl rfl
theorem q_1261 : Cond.code yX7_one cX7_one 5 (some .int) ∈ lwG := tw6 61 rfl rfl
theorem q_1259 : Cond.instanceMethod yX7_one ∈ lwG := tw6 59 rfl rfl
theorem q_1260 : Cond.selects RX7 yX7_one yX7_one ∈ lwG := tw6 60 rfl rfl
theorem mVX7_one : MV yX7_one cX7_one 5 (some .int) 3 := ⟨⟨q_1261, q_9, by decide +kernel, by decide +kernel, by decide +kernel⟩, q_1259, q_1260⟩
theorem q_798 : Cond.methodLink RL 140 yX6_all ∈ lwG := tw4 78 rfl rfl
theorem q_801 : Cond.code yX6_all cX6_all 2 (some .int) ∈ lwG := tw4 81 rfl rfl
theorem q_799 : Cond.instanceMethod yX6_all ∈ lwG := tw4 79 rfl rfl
theorem q_800 : Cond.selects RX6 yX6_all yX6_all ∈ lwG := tw4 80 rfl rfl
theorem mVX6_all : MV yX6_all cX6_all 2 (some .int) 1 := ⟨⟨q_801, q_1, by decide +kernel, by decide +kernel, by decide +kernel⟩, q_799, q_800⟩
theorem q_1266 : Cond.methodLink RL 143 yX7_all ∈ lwG := tw6 66 rfl rfl
theorem q_1269 : Cond.code yX7_all cX7_all 2 (some .int) ∈ lwG := tw6 69 rfl rfl
theorem q_1267 : Cond.instanceMethod yX7_all ∈ lwG := tw6 67 rfl rfl
theorem q_1268 : Cond.selects RX7 yX7_all yX7_all ∈ lwG := tw6 68 rfl rfl
theorem mVX7_all : MV yX7_all cX7_all 2 (some .int) 1 := ⟨⟨q_1269, q_9, by decide +kernel, by decide +kernel, by decide +kernel⟩, q_1267, q_1268⟩
theorem q_802 : Cond.methodLink RL 144 yX6_holder ∈ lwG := tw4 82 rfl rfl
theorem q_805 : Cond.code yX6_holder cX6_holder 5 (some .int) ∈ lwG := tw4 85 rfl rfl
theorem q_803 : Cond.instanceMethod yX6_holder ∈ lwG := tw4 83 rfl rfl
theorem q_804 : Cond.selects RX6 yX6_holder yX6_holder ∈ lwG := tw4 84 rfl rfl
theorem mVX6_holder : MV yX6_holder cX6_holder 5 (some .int) 3 := ⟨⟨q_805, q_1, by decide +kernel, by decide +kernel, by decide +kernel⟩, q_803, q_804⟩
theorem q_1270 : Cond.methodLink RL 147 yX7_holder ∈ lwG := tw6 70 rfl rfl
theorem q_1273 : Cond.code yX7_holder cX7_holder 5 (some .int) ∈ lwG := tw6 73 rfl rfl
theorem q_1271 : Cond.instanceMethod yX7_holder ∈ lwG := tw6 71 rfl rfl
theorem q_1272 : Cond.selects RX7 yX7_holder yX7_holder ∈ lwG := tw6 72 rfl rfl
theorem mVX7_holder : MV yX7_holder cX7_holder 5 (some .int) 3 := ⟨⟨q_1273, q_9, by decide +kernel, by decide +kernel, by decide +kernel⟩, q_1271, q_1272⟩
theorem q_806 : Cond.methodLink RL 148 yX6_hangs ∈ lwG := tw4 86 rfl rfl
theorem q_809 : Cond.code yX6_hangs cX6_hangs 7 (some .int) ∈ lwG := tw4 89 rfl rfl
theorem q_807 : Cond.instanceMethod yX6_hangs ∈ lwG := tw4 87 rfl rfl
theorem q_808 : Cond.selects RX6 yX6_hangs yX6_hangs ∈ lwG := tw4 88 rfl rfl
theorem mVX6_hangs : MV yX6_hangs cX6_hangs 7 (some .int) 2 := ⟨⟨q_809, q_1, by decide +kernel, by decide +kernel, by decide +kernel⟩, q_807, q_808⟩
theorem q_1274 : Cond.methodLink RL 151 yX7_hangs ∈ lwG := tw6 74 rfl rfl
theorem q_1277 : Cond.code yX7_hangs cX7_hangs 8 (some .int) ∈ lwG := tw6 77 rfl rfl
theorem q_1275 : Cond.instanceMethod yX7_hangs ∈ lwG := tw6 75 rfl rfl
theorem q_1276 : Cond.selects RX7 yX7_hangs yX7_hangs ∈ lwG := tw6 76 rfl rfl
theorem mVX7_hangs : MV yX7_hangs cX7_hangs 8 (some .int) 2 := ⟨⟨q_1277, q_9, by decide +kernel, by decide +kernel, by decide +kernel⟩, q_1275, q_1276⟩
theorem q_810 : Cond.methodLink RL 152 yX6_enough ∈ lwG := tw4 90 rfl rfl
theorem q_813 : Cond.code yX6_enough cX6_enough 5 (some .int) ∈ lwG := tw4 93 rfl rfl
theorem q_811 : Cond.instanceMethod yX6_enough ∈ lwG := tw4 91 rfl rfl
theorem q_812 : Cond.selects RX6 yX6_enough yX6_enough ∈ lwG := tw4 92 rfl rfl
theorem mVX6_enough : MV yX6_enough cX6_enough 5 (some .int) 2 := ⟨⟨q_813, q_1, by decide +kernel, by decide +kernel, by decide +kernel⟩, q_811, q_812⟩
theorem q_1278 : Cond.methodLink RL 155 yX7_enough ∈ lwG := tw6 78 rfl rfl
theorem q_1281 : Cond.code yX7_enough cX7_enough 6 (some .int) ∈ lwG := tw6 81 rfl rfl
theorem q_1279 : Cond.instanceMethod yX7_enough ∈ lwG := tw6 79 rfl rfl
theorem q_1280 : Cond.selects RX7 yX7_enough yX7_enough ∈ lwG := tw6 80 rfl rfl
theorem mVX7_enough : MV yX7_enough cX7_enough 6 (some .int) 2 := ⟨⟨q_1281, q_9, by decide +kernel, by decide +kernel, by decide +kernel⟩, q_1279, q_1280⟩
theorem q_815 : Cond.methodLink RL 156 yX6_seed ∈ lwG := tw4 95 rfl rfl
theorem q_818 : Cond.code yX6_seed cX6_seed 3 (some .int) ∈ lwG := tw4 98 rfl rfl
theorem q_816 : Cond.instanceMethod yX6_seed ∈ lwG := tw4 96 rfl rfl
theorem q_817 : Cond.selects RX6 yX6_seed yX6_seed ∈ lwG := tw4 97 rfl rfl
theorem mVX6_seed : MV yX6_seed cX6_seed 3 (some .int) 1 := ⟨⟨q_818, q_1, by decide +kernel, by decide +kernel, by decide +kernel⟩, q_816, q_817⟩
theorem q_1282 : Cond.methodLink RL 159 yX7_seed ∈ lwG := tw6 82 rfl rfl
theorem q_1285 : Cond.code yX7_seed cX7_seed 3 (some .int) ∈ lwG := tw6 85 rfl rfl
theorem q_1283 : Cond.instanceMethod yX7_seed ∈ lwG := tw6 83 rfl rfl
theorem q_1284 : Cond.selects RX7 yX7_seed yX7_seed ∈ lwG := tw6 84 rfl rfl
theorem mVX7_seed : MV yX7_seed cX7_seed 3 (some .int) 1 := ⟨⟨q_1285, q_9, by decide +kernel, by decide +kernel, by decide +kernel⟩, q_1283, q_1284⟩
theorem q_819 : Cond.methodLink RL 160 yX6_image ∈ lwG := tw4 99 rfl rfl
theorem q_822 : Cond.code yX6_image cX6_image 1 (some .int) ∈ lwG := tw4 102 rfl rfl
theorem q_820 : Cond.instanceMethod yX6_image ∈ lwG := tw4 100 rfl rfl
theorem q_821 : Cond.selects RX6 yX6_image yX6_image ∈ lwG := tw4 101 rfl rfl
theorem mVX6_image : MV yX6_image cX6_image 1 (some .int) 0 := ⟨⟨q_822, q_1, by decide +kernel, by decide +kernel, by decide +kernel⟩, q_820, q_821⟩
theorem q_1286 : Cond.methodLink RL 163 yX7_image ∈ lwG := tw6 86 rfl rfl
theorem q_1289 : Cond.code yX7_image cX7_image 1 (some .int) ∈ lwG := tw6 89 rfl rfl
theorem q_1287 : Cond.instanceMethod yX7_image ∈ lwG := tw6 87 rfl rfl
theorem q_1288 : Cond.selects RX7 yX7_image yX7_image ∈ lwG := tw6 88 rfl rfl
theorem mVX7_image : MV yX7_image cX7_image 1 (some .int) 0 := ⟨⟨q_1289, q_9, by decide +kernel, by decide +kernel, by decide +kernel⟩, q_1287, q_1288⟩
theorem q_823 : Cond.methodLink RL 164 yX6_back ∈ lwG := tw4 103 rfl rfl
theorem q_826 : Cond.code yX6_back cX6_back 1 (some .int) ∈ lwG := tw4 106 rfl rfl
theorem q_824 : Cond.instanceMethod yX6_back ∈ lwG := tw4 104 rfl rfl
theorem q_825 : Cond.selects RX6 yX6_back yX6_back ∈ lwG := tw4 105 rfl rfl
theorem mVX6_back : MV yX6_back cX6_back 1 (some .int) 0 := ⟨⟨q_826, q_1, by decide +kernel, by decide +kernel, by decide +kernel⟩, q_824, q_825⟩
theorem q_1290 : Cond.methodLink RL 167 yX7_back ∈ lwG := tw6 90 rfl rfl
theorem q_1293 : Cond.code yX7_back cX7_back 1 (some .int) ∈ lwG := tw6 93 rfl rfl
theorem q_1291 : Cond.instanceMethod yX7_back ∈ lwG := tw6 91 rfl rfl
theorem q_1292 : Cond.selects RX7 yX7_back yX7_back ∈ lwG := tw6 92 rfl rfl
theorem mVX7_back : MV yX7_back cX7_back 1 (some .int) 0 := ⟨⟨q_1293, q_9, by decide +kernel, by decide +kernel, by decide +kernel⟩, q_1291, q_1292⟩
theorem q_827 : Cond.methodLink RL 168 yX6_status ∈ lwG := tw4 107 rfl rfl
theorem q_830 : Cond.code yX6_status cX6_status 2 (some .int) ∈ lwG := tw4 110 rfl rfl
theorem q_828 : Cond.instanceMethod yX6_status ∈ lwG := tw4 108 rfl rfl
theorem q_829 : Cond.selects RX6 yX6_status yX6_status ∈ lwG := tw4 109 rfl rfl
theorem mVX6_status : MV yX6_status cX6_status 2 (some .int) 1 := ⟨⟨q_830, q_1, by decide +kernel, by decide +kernel, by decide +kernel⟩, q_828, q_829⟩
theorem q_1294 : Cond.methodLink RL 171 yX7_status ∈ lwG := tw6 94 rfl rfl
theorem q_1297 : Cond.code yX7_status cX7_status 4 (some .int) ∈ lwG := tw6 97 rfl rfl
theorem q_1295 : Cond.instanceMethod yX7_status ∈ lwG := tw6 95 rfl rfl
theorem q_1296 : Cond.selects RX7 yX7_status yX7_status ∈ lwG := tw6 96 rfl rfl
theorem mVX7_status : MV yX7_status cX7_status 4 (some .int) 1 := ⟨⟨q_1297, q_9, by decide +kernel, by decide +kernel, by decide +kernel⟩, q_1295, q_1296⟩
theorem q_16 : Cond.classLink RL 7 RX6 ∈ lwG := tw1 16 rfl rfl
theorem q_17 : Cond.instantiable RX6 11 ∈ lwG := tw1 17 rfl rfl
theorem q_18 : Cond.methodLink RL 9 yX6_init ∈ lwG := tw1 18 rfl rfl
theorem q_20 : Cond.code yX6_init cX6_init 1 none ∈ lwG := tw1 20 rfl rfl
theorem q_19 : Cond.instanceMethod yX6_init ∈ lwG := tw1 19 rfl rfl
theorem mIX6_init : MI yX6_init cX6_init 1 0 := ⟨⟨q_20, q_1, by decide +kernel, by decide +kernel, by decide +kernel⟩, rfl, q_19⟩
theorem q_835 : Cond.classLink RL 10 RX7 ∈ lwG := tw4 115 rfl rfl
theorem q_837 : Cond.methodLink RL 12 yX7_init ∈ lwG := tw4 117 rfl rfl
theorem dL_law_0 : decode cL_law 0 = .ok (.new 7, 3) := by decide +kernel
theorem dL_law_3 : decode cL_law 3 = .ok (.dup, 1) := by decide +kernel
theorem dL_law_4 : decode cL_law 4 = .ok (.invokespecial 9, 3) := by decide +kernel
theorem dL_law_7 : decode cL_law 7 = .ok (.astore_n 1, 1) := by decide +kernel
theorem dL_law_8 : decode cL_law 8 = .ok (.new 10, 3) := by decide +kernel
theorem dL_law_11 : decode cL_law 11 = .ok (.dup, 1) := by decide +kernel
theorem dL_law_12 : decode cL_law 12 = .ok (.invokespecial 12, 3) := by decide +kernel
theorem dL_law_15 : decode cL_law 15 = .ok (.astore_n 2, 1) := by decide +kernel
theorem dL_law_16 : decode cL_law 16 = .ok (.iconst 0, 1) := by decide +kernel
theorem dL_law_17 : decode cL_law 17 = .ok (.istore_n 3, 1) := by decide +kernel
theorem dL_law_18 : decode cL_law 18 = .ok (.iload_n 3, 1) := by decide +kernel
theorem dL_law_19 : decode cL_law 19 = .ok (.aload_n 0, 1) := by decide +kernel
theorem dL_law_20 : decode cL_law 20 = .ok (.arraylength, 1) := by decide +kernel
theorem dL_law_21 : decode cL_law 21 = .ok (.bipush 7, 2) := by decide +kernel
theorem dL_law_23 : decode cL_law 23 = .ok (.isub, 1) := by decide +kernel
theorem dL_law_24 : decode cL_law 24 = .ok (.if_icmp .gt 1412, 3) := by decide +kernel
theorem dL_law_27 : decode cL_law 27 = .ok (.aload_n 0, 1) := by decide +kernel
theorem dL_law_28 : decode cL_law 28 = .ok (.iload_n 3, 1) := by decide +kernel
theorem dL_law_29 : decode cL_law 29 = .ok (.iaload, 1) := by decide +kernel
theorem dL_law_30 : decode cL_law 30 = .ok (.bipush 63, 2) := by decide +kernel
theorem dL_law_32 : decode cL_law 32 = .ok (.iand, 1) := by decide +kernel
theorem dL_law_33 : decode cL_law 33 = .ok (.tableswitch 1397 0 36 #[163, 206, 279, 342, 376, 399, 442, 475, 550, 583, 626, 659, 692, 725, 738, 751, 774, 797, 830, 863, 886, 909, 952, 975, 1008, 1041, 1064, 1097, 1150, 1193, 1216, 1259, 1292, 1325, 1348, 1361, 1374], 163) := by decide +kernel
theorem dL_law_196 : decode cL_law 196 = .ok (.aload_n 1, 1) := by decide +kernel
theorem dL_law_197 : decode cL_law 197 = .ok (.aload_n 0, 1) := by decide +kernel
theorem dL_law_198 : decode cL_law 198 = .ok (.iload_n 3, 1) := by decide +kernel
theorem dL_law_199 : decode cL_law 199 = .ok (.iconst 1, 1) := by decide +kernel
theorem dL_law_200 : decode cL_law 200 = .ok (.iadd, 1) := by decide +kernel
theorem dL_law_201 : decode cL_law 201 = .ok (.iaload, 1) := by decide +kernel
theorem dL_law_202 : decode cL_law 202 = .ok (.aload_n 0, 1) := by decide +kernel
theorem dL_law_203 : decode cL_law 203 = .ok (.iload_n 3, 1) := by decide +kernel
theorem dL_law_204 : decode cL_law 204 = .ok (.iconst 2, 1) := by decide +kernel
theorem dL_law_205 : decode cL_law 205 = .ok (.iadd, 1) := by decide +kernel
theorem dL_law_206 : decode cL_law 206 = .ok (.iaload, 1) := by decide +kernel
theorem dL_law_207 : decode cL_law 207 = .ok (.aload_n 0, 1) := by decide +kernel
theorem dL_law_208 : decode cL_law 208 = .ok (.iload_n 3, 1) := by decide +kernel
theorem dL_law_209 : decode cL_law 209 = .ok (.iconst 3, 1) := by decide +kernel
theorem dL_law_210 : decode cL_law 210 = .ok (.iadd, 1) := by decide +kernel
theorem dL_law_211 : decode cL_law 211 = .ok (.iaload, 1) := by decide +kernel
theorem dL_law_212 : decode cL_law 212 = .ok (.invokevirtual 13, 3) := by decide +kernel
theorem dL_law_215 : decode cL_law 215 = .ok (.aload_n 2, 1) := by decide +kernel
theorem dL_law_216 : decode cL_law 216 = .ok (.aload_n 0, 1) := by decide +kernel
theorem dL_law_217 : decode cL_law 217 = .ok (.iload_n 3, 1) := by decide +kernel
theorem dL_law_218 : decode cL_law 218 = .ok (.iconst 1, 1) := by decide +kernel
theorem dL_law_219 : decode cL_law 219 = .ok (.iadd, 1) := by decide +kernel
theorem dL_law_220 : decode cL_law 220 = .ok (.iaload, 1) := by decide +kernel
theorem dL_law_221 : decode cL_law 221 = .ok (.aload_n 0, 1) := by decide +kernel
theorem dL_law_222 : decode cL_law 222 = .ok (.iload_n 3, 1) := by decide +kernel
theorem dL_law_223 : decode cL_law 223 = .ok (.iconst 2, 1) := by decide +kernel
theorem dL_law_224 : decode cL_law 224 = .ok (.iadd, 1) := by decide +kernel
theorem dL_law_225 : decode cL_law 225 = .ok (.iaload, 1) := by decide +kernel
theorem dL_law_226 : decode cL_law 226 = .ok (.aload_n 0, 1) := by decide +kernel
theorem dL_law_227 : decode cL_law 227 = .ok (.iload_n 3, 1) := by decide +kernel
theorem dL_law_228 : decode cL_law 228 = .ok (.iconst 3, 1) := by decide +kernel
theorem dL_law_229 : decode cL_law 229 = .ok (.iadd, 1) := by decide +kernel
theorem dL_law_230 : decode cL_law 230 = .ok (.iaload, 1) := by decide +kernel
theorem dL_law_231 : decode cL_law 231 = .ok (.invokevirtual 17, 3) := by decide +kernel
theorem dL_law_234 : decode cL_law 234 = .ok (.if_icmp .eq 1196, 3) := by decide +kernel
theorem dL_law_237 : decode cL_law 237 = .ok (.iconst 0, 1) := by decide +kernel
theorem dL_law_238 : decode cL_law 238 = .ok (.ireturn, 1) := by decide +kernel
theorem dL_law_239 : decode cL_law 239 = .ok (.aload_n 1, 1) := by decide +kernel
theorem dL_law_240 : decode cL_law 240 = .ok (.aload_n 0, 1) := by decide +kernel
theorem dL_law_241 : decode cL_law 241 = .ok (.iload_n 3, 1) := by decide +kernel
theorem dL_law_242 : decode cL_law 242 = .ok (.iconst 1, 1) := by decide +kernel
theorem dL_law_243 : decode cL_law 243 = .ok (.iadd, 1) := by decide +kernel
theorem dL_law_244 : decode cL_law 244 = .ok (.iaload, 1) := by decide +kernel
theorem dL_law_245 : decode cL_law 245 = .ok (.aload_n 0, 1) := by decide +kernel
theorem dL_law_246 : decode cL_law 246 = .ok (.iload_n 3, 1) := by decide +kernel
theorem dL_law_247 : decode cL_law 247 = .ok (.iconst 2, 1) := by decide +kernel
theorem dL_law_248 : decode cL_law 248 = .ok (.iadd, 1) := by decide +kernel
theorem dL_law_249 : decode cL_law 249 = .ok (.iaload, 1) := by decide +kernel
theorem dL_law_250 : decode cL_law 250 = .ok (.aload_n 0, 1) := by decide +kernel
theorem dL_law_251 : decode cL_law 251 = .ok (.iload_n 3, 1) := by decide +kernel
theorem dL_law_252 : decode cL_law 252 = .ok (.iconst 3, 1) := by decide +kernel
theorem dL_law_253 : decode cL_law 253 = .ok (.iadd, 1) := by decide +kernel
theorem dL_law_254 : decode cL_law 254 = .ok (.iaload, 1) := by decide +kernel
theorem dL_law_255 : decode cL_law 255 = .ok (.i2l, 1) := by decide +kernel
theorem dL_law_256 : decode cL_law 256 = .ok (.bipush 32, 2) := by decide +kernel
theorem dL_law_258 : decode cL_law 258 = .ok (.lshl, 1) := by decide +kernel
theorem dL_law_259 : decode cL_law 259 = .ok (.aload_n 0, 1) := by decide +kernel
theorem dL_law_260 : decode cL_law 260 = .ok (.iload_n 3, 1) := by decide +kernel
theorem dL_law_261 : decode cL_law 261 = .ok (.iconst 4, 1) := by decide +kernel
theorem dL_law_262 : decode cL_law 262 = .ok (.iadd, 1) := by decide +kernel
theorem dL_law_263 : decode cL_law 263 = .ok (.iaload, 1) := by decide +kernel
theorem dL_law_264 : decode cL_law 264 = .ok (.i2l, 1) := by decide +kernel
theorem dL_law_265 : decode cL_law 265 = .ok (.ldc2_w 18, 3) := by decide +kernel
theorem dL_law_268 : decode cL_law 268 = .ok (.land, 1) := by decide +kernel
theorem dL_law_269 : decode cL_law 269 = .ok (.lor, 1) := by decide +kernel
theorem dL_law_270 : decode cL_law 270 = .ok (.invokevirtual 20, 3) := by decide +kernel
theorem dL_law_273 : decode cL_law 273 = .ok (.aload_n 2, 1) := by decide +kernel
theorem dL_law_274 : decode cL_law 274 = .ok (.aload_n 0, 1) := by decide +kernel
theorem dL_law_275 : decode cL_law 275 = .ok (.iload_n 3, 1) := by decide +kernel
theorem dL_law_276 : decode cL_law 276 = .ok (.iconst 1, 1) := by decide +kernel
theorem dL_law_277 : decode cL_law 277 = .ok (.iadd, 1) := by decide +kernel
theorem dL_law_278 : decode cL_law 278 = .ok (.iaload, 1) := by decide +kernel
theorem dL_law_279 : decode cL_law 279 = .ok (.aload_n 0, 1) := by decide +kernel
theorem dL_law_280 : decode cL_law 280 = .ok (.iload_n 3, 1) := by decide +kernel
theorem dL_law_281 : decode cL_law 281 = .ok (.iconst 2, 1) := by decide +kernel
theorem dL_law_282 : decode cL_law 282 = .ok (.iadd, 1) := by decide +kernel
theorem dL_law_283 : decode cL_law 283 = .ok (.iaload, 1) := by decide +kernel
theorem dL_law_284 : decode cL_law 284 = .ok (.aload_n 0, 1) := by decide +kernel
theorem dL_law_285 : decode cL_law 285 = .ok (.iload_n 3, 1) := by decide +kernel
theorem dL_law_286 : decode cL_law 286 = .ok (.iconst 3, 1) := by decide +kernel
theorem dL_law_287 : decode cL_law 287 = .ok (.iadd, 1) := by decide +kernel
theorem dL_law_288 : decode cL_law 288 = .ok (.iaload, 1) := by decide +kernel
theorem dL_law_289 : decode cL_law 289 = .ok (.i2l, 1) := by decide +kernel
theorem dL_law_290 : decode cL_law 290 = .ok (.bipush 32, 2) := by decide +kernel
theorem dL_law_292 : decode cL_law 292 = .ok (.lshl, 1) := by decide +kernel
theorem dL_law_293 : decode cL_law 293 = .ok (.aload_n 0, 1) := by decide +kernel
theorem dL_law_294 : decode cL_law 294 = .ok (.iload_n 3, 1) := by decide +kernel
theorem dL_law_295 : decode cL_law 295 = .ok (.iconst 4, 1) := by decide +kernel
theorem dL_law_296 : decode cL_law 296 = .ok (.iadd, 1) := by decide +kernel
theorem dL_law_297 : decode cL_law 297 = .ok (.iaload, 1) := by decide +kernel
theorem dL_law_298 : decode cL_law 298 = .ok (.i2l, 1) := by decide +kernel
theorem dL_law_299 : decode cL_law 299 = .ok (.ldc2_w 18, 3) := by decide +kernel
theorem dL_law_302 : decode cL_law 302 = .ok (.land, 1) := by decide +kernel
theorem dL_law_303 : decode cL_law 303 = .ok (.lor, 1) := by decide +kernel
theorem dL_law_304 : decode cL_law 304 = .ok (.invokevirtual 24, 3) := by decide +kernel
theorem dL_law_307 : decode cL_law 307 = .ok (.if_icmp .eq 1123, 3) := by decide +kernel
theorem dL_law_310 : decode cL_law 310 = .ok (.iconst 0, 1) := by decide +kernel
theorem dL_law_311 : decode cL_law 311 = .ok (.ireturn, 1) := by decide +kernel
theorem dL_law_312 : decode cL_law 312 = .ok (.aload_n 1, 1) := by decide +kernel
theorem dL_law_313 : decode cL_law 313 = .ok (.aload_n 0, 1) := by decide +kernel
theorem dL_law_314 : decode cL_law 314 = .ok (.iload_n 3, 1) := by decide +kernel
theorem dL_law_315 : decode cL_law 315 = .ok (.iconst 1, 1) := by decide +kernel
theorem dL_law_316 : decode cL_law 316 = .ok (.iadd, 1) := by decide +kernel
theorem dL_law_317 : decode cL_law 317 = .ok (.iaload, 1) := by decide +kernel
theorem dL_law_318 : decode cL_law 318 = .ok (.aload_n 0, 1) := by decide +kernel
theorem dL_law_319 : decode cL_law 319 = .ok (.iload_n 3, 1) := by decide +kernel
theorem dL_law_320 : decode cL_law 320 = .ok (.iconst 2, 1) := by decide +kernel
theorem dL_law_321 : decode cL_law 321 = .ok (.iadd, 1) := by decide +kernel
theorem dL_law_322 : decode cL_law 322 = .ok (.iaload, 1) := by decide +kernel
theorem dL_law_323 : decode cL_law 323 = .ok (.aload_n 0, 1) := by decide +kernel
theorem dL_law_324 : decode cL_law 324 = .ok (.iload_n 3, 1) := by decide +kernel
theorem dL_law_325 : decode cL_law 325 = .ok (.iconst 3, 1) := by decide +kernel
theorem dL_law_326 : decode cL_law 326 = .ok (.iadd, 1) := by decide +kernel
theorem dL_law_327 : decode cL_law 327 = .ok (.iaload, 1) := by decide +kernel
theorem dL_law_328 : decode cL_law 328 = .ok (.aload_n 0, 1) := by decide +kernel
theorem dL_law_329 : decode cL_law 329 = .ok (.iload_n 3, 1) := by decide +kernel
theorem dL_law_330 : decode cL_law 330 = .ok (.iconst 4, 1) := by decide +kernel
theorem dL_law_331 : decode cL_law 331 = .ok (.iadd, 1) := by decide +kernel
theorem dL_law_332 : decode cL_law 332 = .ok (.iaload, 1) := by decide +kernel
theorem dL_law_333 : decode cL_law 333 = .ok (.aload_n 0, 1) := by decide +kernel
theorem dL_law_334 : decode cL_law 334 = .ok (.iload_n 3, 1) := by decide +kernel
theorem dL_law_335 : decode cL_law 335 = .ok (.iconst 5, 1) := by decide +kernel
theorem dL_law_336 : decode cL_law 336 = .ok (.iadd, 1) := by decide +kernel
theorem dL_law_337 : decode cL_law 337 = .ok (.iaload, 1) := by decide +kernel
theorem dL_law_338 : decode cL_law 338 = .ok (.invokevirtual 25, 3) := by decide +kernel
theorem dL_law_341 : decode cL_law 341 = .ok (.aload_n 2, 1) := by decide +kernel
theorem dL_law_342 : decode cL_law 342 = .ok (.aload_n 0, 1) := by decide +kernel
theorem dL_law_343 : decode cL_law 343 = .ok (.iload_n 3, 1) := by decide +kernel
theorem dL_law_344 : decode cL_law 344 = .ok (.iconst 1, 1) := by decide +kernel
theorem dL_law_345 : decode cL_law 345 = .ok (.iadd, 1) := by decide +kernel
theorem dL_law_346 : decode cL_law 346 = .ok (.iaload, 1) := by decide +kernel
theorem dL_law_347 : decode cL_law 347 = .ok (.aload_n 0, 1) := by decide +kernel
theorem dL_law_348 : decode cL_law 348 = .ok (.iload_n 3, 1) := by decide +kernel
theorem dL_law_349 : decode cL_law 349 = .ok (.iconst 2, 1) := by decide +kernel
theorem dL_law_350 : decode cL_law 350 = .ok (.iadd, 1) := by decide +kernel
theorem dL_law_351 : decode cL_law 351 = .ok (.iaload, 1) := by decide +kernel
theorem dL_law_352 : decode cL_law 352 = .ok (.aload_n 0, 1) := by decide +kernel
theorem dL_law_353 : decode cL_law 353 = .ok (.iload_n 3, 1) := by decide +kernel
theorem dL_law_354 : decode cL_law 354 = .ok (.iconst 3, 1) := by decide +kernel
theorem dL_law_355 : decode cL_law 355 = .ok (.iadd, 1) := by decide +kernel
theorem dL_law_356 : decode cL_law 356 = .ok (.iaload, 1) := by decide +kernel
theorem dL_law_357 : decode cL_law 357 = .ok (.aload_n 0, 1) := by decide +kernel
theorem dL_law_358 : decode cL_law 358 = .ok (.iload_n 3, 1) := by decide +kernel
theorem dL_law_359 : decode cL_law 359 = .ok (.iconst 4, 1) := by decide +kernel
theorem dL_law_360 : decode cL_law 360 = .ok (.iadd, 1) := by decide +kernel
theorem dL_law_361 : decode cL_law 361 = .ok (.iaload, 1) := by decide +kernel
theorem dL_law_362 : decode cL_law 362 = .ok (.aload_n 0, 1) := by decide +kernel
theorem dL_law_363 : decode cL_law 363 = .ok (.iload_n 3, 1) := by decide +kernel
theorem dL_law_364 : decode cL_law 364 = .ok (.iconst 5, 1) := by decide +kernel
theorem dL_law_365 : decode cL_law 365 = .ok (.iadd, 1) := by decide +kernel
theorem dL_law_366 : decode cL_law 366 = .ok (.iaload, 1) := by decide +kernel
theorem dL_law_367 : decode cL_law 367 = .ok (.invokevirtual 29, 3) := by decide +kernel
theorem dL_law_370 : decode cL_law 370 = .ok (.if_icmp .eq 1060, 3) := by decide +kernel
theorem dL_law_373 : decode cL_law 373 = .ok (.iconst 0, 1) := by decide +kernel
theorem dL_law_374 : decode cL_law 374 = .ok (.ireturn, 1) := by decide +kernel
theorem dL_law_375 : decode cL_law 375 = .ok (.aload_n 1, 1) := by decide +kernel
theorem dL_law_376 : decode cL_law 376 = .ok (.aload_n 0, 1) := by decide +kernel
theorem dL_law_377 : decode cL_law 377 = .ok (.iload_n 3, 1) := by decide +kernel
theorem dL_law_378 : decode cL_law 378 = .ok (.iconst 1, 1) := by decide +kernel
theorem dL_law_379 : decode cL_law 379 = .ok (.iadd, 1) := by decide +kernel
theorem dL_law_380 : decode cL_law 380 = .ok (.iaload, 1) := by decide +kernel
theorem dL_law_381 : decode cL_law 381 = .ok (.aload_n 0, 1) := by decide +kernel
theorem dL_law_382 : decode cL_law 382 = .ok (.iload_n 3, 1) := by decide +kernel
theorem dL_law_383 : decode cL_law 383 = .ok (.iconst 2, 1) := by decide +kernel
theorem dL_law_384 : decode cL_law 384 = .ok (.iadd, 1) := by decide +kernel
theorem dL_law_385 : decode cL_law 385 = .ok (.iaload, 1) := by decide +kernel
theorem dL_law_386 : decode cL_law 386 = .ok (.invokevirtual 30, 3) := by decide +kernel
theorem dL_law_389 : decode cL_law 389 = .ok (.aload_n 2, 1) := by decide +kernel
theorem dL_law_390 : decode cL_law 390 = .ok (.aload_n 0, 1) := by decide +kernel
theorem dL_law_391 : decode cL_law 391 = .ok (.iload_n 3, 1) := by decide +kernel
theorem dL_law_392 : decode cL_law 392 = .ok (.iconst 1, 1) := by decide +kernel
theorem dL_law_393 : decode cL_law 393 = .ok (.iadd, 1) := by decide +kernel
theorem dL_law_394 : decode cL_law 394 = .ok (.iaload, 1) := by decide +kernel
theorem dL_law_395 : decode cL_law 395 = .ok (.aload_n 0, 1) := by decide +kernel
theorem dL_law_396 : decode cL_law 396 = .ok (.iload_n 3, 1) := by decide +kernel
theorem dL_law_397 : decode cL_law 397 = .ok (.iconst 2, 1) := by decide +kernel
theorem dL_law_398 : decode cL_law 398 = .ok (.iadd, 1) := by decide +kernel
theorem dL_law_399 : decode cL_law 399 = .ok (.iaload, 1) := by decide +kernel
theorem dL_law_400 : decode cL_law 400 = .ok (.invokevirtual 34, 3) := by decide +kernel
theorem dL_law_403 : decode cL_law 403 = .ok (.lcmp, 1) := by decide +kernel
theorem dL_law_404 : decode cL_law 404 = .ok (.ifCond .eq 1026, 3) := by decide +kernel
theorem dL_law_407 : decode cL_law 407 = .ok (.iconst 0, 1) := by decide +kernel
theorem dL_law_408 : decode cL_law 408 = .ok (.ireturn, 1) := by decide +kernel
theorem dL_law_409 : decode cL_law 409 = .ok (.aload_n 1, 1) := by decide +kernel
theorem dL_law_410 : decode cL_law 410 = .ok (.aload_n 0, 1) := by decide +kernel
theorem dL_law_411 : decode cL_law 411 = .ok (.iload_n 3, 1) := by decide +kernel
theorem dL_law_412 : decode cL_law 412 = .ok (.iconst 1, 1) := by decide +kernel
theorem dL_law_413 : decode cL_law 413 = .ok (.iadd, 1) := by decide +kernel
theorem dL_law_414 : decode cL_law 414 = .ok (.iaload, 1) := by decide +kernel
theorem dL_law_415 : decode cL_law 415 = .ok (.invokevirtual 35, 3) := by decide +kernel
theorem dL_law_418 : decode cL_law 418 = .ok (.aload_n 2, 1) := by decide +kernel
theorem dL_law_419 : decode cL_law 419 = .ok (.aload_n 0, 1) := by decide +kernel
theorem dL_law_420 : decode cL_law 420 = .ok (.iload_n 3, 1) := by decide +kernel
theorem dL_law_421 : decode cL_law 421 = .ok (.iconst 1, 1) := by decide +kernel
theorem dL_law_422 : decode cL_law 422 = .ok (.iadd, 1) := by decide +kernel
theorem dL_law_423 : decode cL_law 423 = .ok (.iaload, 1) := by decide +kernel
theorem dL_law_424 : decode cL_law 424 = .ok (.invokevirtual 39, 3) := by decide +kernel
theorem dL_law_427 : decode cL_law 427 = .ok (.if_icmp .eq 1003, 3) := by decide +kernel
theorem dL_law_430 : decode cL_law 430 = .ok (.iconst 0, 1) := by decide +kernel
theorem dL_law_431 : decode cL_law 431 = .ok (.ireturn, 1) := by decide +kernel
theorem dL_law_432 : decode cL_law 432 = .ok (.aload_n 1, 1) := by decide +kernel
theorem dL_law_433 : decode cL_law 433 = .ok (.aload_n 0, 1) := by decide +kernel
theorem dL_law_434 : decode cL_law 434 = .ok (.iload_n 3, 1) := by decide +kernel
theorem dL_law_435 : decode cL_law 435 = .ok (.iconst 1, 1) := by decide +kernel
theorem dL_law_436 : decode cL_law 436 = .ok (.iadd, 1) := by decide +kernel
theorem dL_law_437 : decode cL_law 437 = .ok (.iaload, 1) := by decide +kernel
theorem dL_law_438 : decode cL_law 438 = .ok (.aload_n 0, 1) := by decide +kernel
theorem dL_law_439 : decode cL_law 439 = .ok (.iload_n 3, 1) := by decide +kernel
theorem dL_law_440 : decode cL_law 440 = .ok (.iconst 2, 1) := by decide +kernel
theorem dL_law_441 : decode cL_law 441 = .ok (.iadd, 1) := by decide +kernel
theorem dL_law_442 : decode cL_law 442 = .ok (.iaload, 1) := by decide +kernel
theorem dL_law_443 : decode cL_law 443 = .ok (.aload_n 0, 1) := by decide +kernel
theorem dL_law_444 : decode cL_law 444 = .ok (.iload_n 3, 1) := by decide +kernel
theorem dL_law_445 : decode cL_law 445 = .ok (.iconst 3, 1) := by decide +kernel
theorem dL_law_446 : decode cL_law 446 = .ok (.iadd, 1) := by decide +kernel
theorem dL_law_447 : decode cL_law 447 = .ok (.iaload, 1) := by decide +kernel
theorem dL_law_448 : decode cL_law 448 = .ok (.invokevirtual 40, 3) := by decide +kernel
theorem dL_law_451 : decode cL_law 451 = .ok (.aload_n 2, 1) := by decide +kernel
theorem dL_law_452 : decode cL_law 452 = .ok (.aload_n 0, 1) := by decide +kernel
theorem dL_law_453 : decode cL_law 453 = .ok (.iload_n 3, 1) := by decide +kernel
theorem dL_law_454 : decode cL_law 454 = .ok (.iconst 1, 1) := by decide +kernel
theorem dL_law_455 : decode cL_law 455 = .ok (.iadd, 1) := by decide +kernel
theorem dL_law_456 : decode cL_law 456 = .ok (.iaload, 1) := by decide +kernel
theorem dL_law_457 : decode cL_law 457 = .ok (.aload_n 0, 1) := by decide +kernel
theorem dL_law_458 : decode cL_law 458 = .ok (.iload_n 3, 1) := by decide +kernel
theorem dL_law_459 : decode cL_law 459 = .ok (.iconst 2, 1) := by decide +kernel
theorem dL_law_460 : decode cL_law 460 = .ok (.iadd, 1) := by decide +kernel
theorem dL_law_461 : decode cL_law 461 = .ok (.iaload, 1) := by decide +kernel
theorem dL_law_462 : decode cL_law 462 = .ok (.aload_n 0, 1) := by decide +kernel
theorem dL_law_463 : decode cL_law 463 = .ok (.iload_n 3, 1) := by decide +kernel
theorem dL_law_464 : decode cL_law 464 = .ok (.iconst 3, 1) := by decide +kernel
theorem dL_law_465 : decode cL_law 465 = .ok (.iadd, 1) := by decide +kernel
theorem dL_law_466 : decode cL_law 466 = .ok (.iaload, 1) := by decide +kernel
theorem dL_law_467 : decode cL_law 467 = .ok (.invokevirtual 43, 3) := by decide +kernel
theorem dL_law_470 : decode cL_law 470 = .ok (.if_icmp .eq 960, 3) := by decide +kernel
theorem dL_law_473 : decode cL_law 473 = .ok (.iconst 0, 1) := by decide +kernel
theorem dL_law_474 : decode cL_law 474 = .ok (.ireturn, 1) := by decide +kernel
theorem dL_law_475 : decode cL_law 475 = .ok (.aload_n 1, 1) := by decide +kernel
theorem dL_law_476 : decode cL_law 476 = .ok (.aload_n 0, 1) := by decide +kernel
theorem dL_law_477 : decode cL_law 477 = .ok (.iload_n 3, 1) := by decide +kernel
theorem dL_law_478 : decode cL_law 478 = .ok (.iconst 1, 1) := by decide +kernel
theorem dL_law_479 : decode cL_law 479 = .ok (.iadd, 1) := by decide +kernel
theorem dL_law_480 : decode cL_law 480 = .ok (.iaload, 1) := by decide +kernel
theorem dL_law_481 : decode cL_law 481 = .ok (.aload_n 0, 1) := by decide +kernel
theorem dL_law_482 : decode cL_law 482 = .ok (.iload_n 3, 1) := by decide +kernel
theorem dL_law_483 : decode cL_law 483 = .ok (.iconst 2, 1) := by decide +kernel
theorem dL_law_484 : decode cL_law 484 = .ok (.iadd, 1) := by decide +kernel
theorem dL_law_485 : decode cL_law 485 = .ok (.iaload, 1) := by decide +kernel
theorem dL_law_486 : decode cL_law 486 = .ok (.invokevirtual 44, 3) := by decide +kernel
theorem dL_law_489 : decode cL_law 489 = .ok (.aload_n 2, 1) := by decide +kernel
theorem dL_law_490 : decode cL_law 490 = .ok (.aload_n 0, 1) := by decide +kernel
theorem dL_law_491 : decode cL_law 491 = .ok (.iload_n 3, 1) := by decide +kernel
theorem dL_law_492 : decode cL_law 492 = .ok (.iconst 1, 1) := by decide +kernel
theorem dL_law_493 : decode cL_law 493 = .ok (.iadd, 1) := by decide +kernel
theorem dL_law_494 : decode cL_law 494 = .ok (.iaload, 1) := by decide +kernel
theorem dL_law_495 : decode cL_law 495 = .ok (.aload_n 0, 1) := by decide +kernel
theorem dL_law_496 : decode cL_law 496 = .ok (.iload_n 3, 1) := by decide +kernel
theorem dL_law_497 : decode cL_law 497 = .ok (.iconst 2, 1) := by decide +kernel
theorem dL_law_498 : decode cL_law 498 = .ok (.iadd, 1) := by decide +kernel
theorem dL_law_499 : decode cL_law 499 = .ok (.iaload, 1) := by decide +kernel
theorem dL_law_500 : decode cL_law 500 = .ok (.invokevirtual 48, 3) := by decide +kernel
theorem dL_law_503 : decode cL_law 503 = .ok (.if_icmp .eq 927, 3) := by decide +kernel
theorem dL_law_506 : decode cL_law 506 = .ok (.iconst 0, 1) := by decide +kernel
theorem dL_law_507 : decode cL_law 507 = .ok (.ireturn, 1) := by decide +kernel
theorem dL_law_508 : decode cL_law 508 = .ok (.aload_n 1, 1) := by decide +kernel
theorem dL_law_509 : decode cL_law 509 = .ok (.aload_n 0, 1) := by decide +kernel
theorem dL_law_510 : decode cL_law 510 = .ok (.iload_n 3, 1) := by decide +kernel
theorem dL_law_511 : decode cL_law 511 = .ok (.iconst 1, 1) := by decide +kernel
theorem dL_law_512 : decode cL_law 512 = .ok (.iadd, 1) := by decide +kernel
theorem dL_law_513 : decode cL_law 513 = .ok (.iaload, 1) := by decide +kernel
theorem dL_law_514 : decode cL_law 514 = .ok (.aload_n 0, 1) := by decide +kernel
theorem dL_law_515 : decode cL_law 515 = .ok (.iload_n 3, 1) := by decide +kernel
theorem dL_law_516 : decode cL_law 516 = .ok (.iconst 2, 1) := by decide +kernel
theorem dL_law_517 : decode cL_law 517 = .ok (.iadd, 1) := by decide +kernel
theorem dL_law_518 : decode cL_law 518 = .ok (.iaload, 1) := by decide +kernel
theorem dL_law_519 : decode cL_law 519 = .ok (.aload_n 0, 1) := by decide +kernel
theorem dL_law_520 : decode cL_law 520 = .ok (.iload_n 3, 1) := by decide +kernel
theorem dL_law_521 : decode cL_law 521 = .ok (.iconst 3, 1) := by decide +kernel
theorem dL_law_522 : decode cL_law 522 = .ok (.iadd, 1) := by decide +kernel
theorem dL_law_523 : decode cL_law 523 = .ok (.iaload, 1) := by decide +kernel
theorem dL_law_524 : decode cL_law 524 = .ok (.aload_n 0, 1) := by decide +kernel
theorem dL_law_525 : decode cL_law 525 = .ok (.iload_n 3, 1) := by decide +kernel
theorem dL_law_526 : decode cL_law 526 = .ok (.iconst 4, 1) := by decide +kernel
theorem dL_law_527 : decode cL_law 527 = .ok (.iadd, 1) := by decide +kernel
theorem dL_law_528 : decode cL_law 528 = .ok (.iaload, 1) := by decide +kernel
theorem dL_law_529 : decode cL_law 529 = .ok (.aload_n 0, 1) := by decide +kernel
theorem dL_law_530 : decode cL_law 530 = .ok (.iload_n 3, 1) := by decide +kernel
theorem dL_law_531 : decode cL_law 531 = .ok (.iconst 5, 1) := by decide +kernel
theorem dL_law_532 : decode cL_law 532 = .ok (.iadd, 1) := by decide +kernel
theorem dL_law_533 : decode cL_law 533 = .ok (.iaload, 1) := by decide +kernel
theorem dL_law_534 : decode cL_law 534 = .ok (.aload_n 0, 1) := by decide +kernel
theorem dL_law_535 : decode cL_law 535 = .ok (.iload_n 3, 1) := by decide +kernel
theorem dL_law_536 : decode cL_law 536 = .ok (.bipush 6, 2) := by decide +kernel
theorem dL_law_538 : decode cL_law 538 = .ok (.iadd, 1) := by decide +kernel
theorem dL_law_539 : decode cL_law 539 = .ok (.iaload, 1) := by decide +kernel
theorem dL_law_540 : decode cL_law 540 = .ok (.invokevirtual 49, 3) := by decide +kernel
theorem dL_law_543 : decode cL_law 543 = .ok (.aload_n 2, 1) := by decide +kernel
theorem dL_law_544 : decode cL_law 544 = .ok (.aload_n 0, 1) := by decide +kernel
theorem dL_law_545 : decode cL_law 545 = .ok (.iload_n 3, 1) := by decide +kernel
theorem dL_law_546 : decode cL_law 546 = .ok (.iconst 1, 1) := by decide +kernel
theorem dL_law_547 : decode cL_law 547 = .ok (.iadd, 1) := by decide +kernel
theorem dL_law_548 : decode cL_law 548 = .ok (.iaload, 1) := by decide +kernel
theorem dL_law_549 : decode cL_law 549 = .ok (.aload_n 0, 1) := by decide +kernel
theorem dL_law_550 : decode cL_law 550 = .ok (.iload_n 3, 1) := by decide +kernel
theorem dL_law_551 : decode cL_law 551 = .ok (.iconst 2, 1) := by decide +kernel
theorem dL_law_552 : decode cL_law 552 = .ok (.iadd, 1) := by decide +kernel
theorem dL_law_553 : decode cL_law 553 = .ok (.iaload, 1) := by decide +kernel
theorem dL_law_554 : decode cL_law 554 = .ok (.aload_n 0, 1) := by decide +kernel
theorem dL_law_555 : decode cL_law 555 = .ok (.iload_n 3, 1) := by decide +kernel
theorem dL_law_556 : decode cL_law 556 = .ok (.iconst 3, 1) := by decide +kernel
theorem dL_law_557 : decode cL_law 557 = .ok (.iadd, 1) := by decide +kernel
theorem dL_law_558 : decode cL_law 558 = .ok (.iaload, 1) := by decide +kernel
theorem dL_law_559 : decode cL_law 559 = .ok (.aload_n 0, 1) := by decide +kernel
theorem dL_law_560 : decode cL_law 560 = .ok (.iload_n 3, 1) := by decide +kernel
theorem dL_law_561 : decode cL_law 561 = .ok (.iconst 4, 1) := by decide +kernel
theorem dL_law_562 : decode cL_law 562 = .ok (.iadd, 1) := by decide +kernel
theorem dL_law_563 : decode cL_law 563 = .ok (.iaload, 1) := by decide +kernel
theorem dL_law_564 : decode cL_law 564 = .ok (.aload_n 0, 1) := by decide +kernel
theorem dL_law_565 : decode cL_law 565 = .ok (.iload_n 3, 1) := by decide +kernel
theorem dL_law_566 : decode cL_law 566 = .ok (.iconst 5, 1) := by decide +kernel
theorem dL_law_567 : decode cL_law 567 = .ok (.iadd, 1) := by decide +kernel
theorem dL_law_568 : decode cL_law 568 = .ok (.iaload, 1) := by decide +kernel
theorem dL_law_569 : decode cL_law 569 = .ok (.aload_n 0, 1) := by decide +kernel
theorem dL_law_570 : decode cL_law 570 = .ok (.iload_n 3, 1) := by decide +kernel
theorem dL_law_571 : decode cL_law 571 = .ok (.bipush 6, 2) := by decide +kernel
theorem dL_law_573 : decode cL_law 573 = .ok (.iadd, 1) := by decide +kernel
theorem dL_law_574 : decode cL_law 574 = .ok (.iaload, 1) := by decide +kernel
theorem dL_law_575 : decode cL_law 575 = .ok (.invokevirtual 53, 3) := by decide +kernel
theorem dL_law_578 : decode cL_law 578 = .ok (.if_icmp .eq 852, 3) := by decide +kernel
theorem dL_law_581 : decode cL_law 581 = .ok (.iconst 0, 1) := by decide +kernel
theorem dL_law_582 : decode cL_law 582 = .ok (.ireturn, 1) := by decide +kernel
theorem dL_law_583 : decode cL_law 583 = .ok (.aload_n 1, 1) := by decide +kernel
theorem dL_law_584 : decode cL_law 584 = .ok (.aload_n 0, 1) := by decide +kernel
theorem dL_law_585 : decode cL_law 585 = .ok (.iload_n 3, 1) := by decide +kernel
theorem dL_law_586 : decode cL_law 586 = .ok (.iconst 1, 1) := by decide +kernel
theorem dL_law_587 : decode cL_law 587 = .ok (.iadd, 1) := by decide +kernel
theorem dL_law_588 : decode cL_law 588 = .ok (.iaload, 1) := by decide +kernel
theorem dL_law_589 : decode cL_law 589 = .ok (.aload_n 0, 1) := by decide +kernel
theorem dL_law_590 : decode cL_law 590 = .ok (.iload_n 3, 1) := by decide +kernel
theorem dL_law_591 : decode cL_law 591 = .ok (.iconst 2, 1) := by decide +kernel
theorem dL_law_592 : decode cL_law 592 = .ok (.iadd, 1) := by decide +kernel
theorem dL_law_593 : decode cL_law 593 = .ok (.iaload, 1) := by decide +kernel
theorem dL_law_594 : decode cL_law 594 = .ok (.invokevirtual 54, 3) := by decide +kernel
theorem dL_law_597 : decode cL_law 597 = .ok (.aload_n 2, 1) := by decide +kernel
theorem dL_law_598 : decode cL_law 598 = .ok (.aload_n 0, 1) := by decide +kernel
theorem dL_law_599 : decode cL_law 599 = .ok (.iload_n 3, 1) := by decide +kernel
theorem dL_law_600 : decode cL_law 600 = .ok (.iconst 1, 1) := by decide +kernel
theorem dL_law_601 : decode cL_law 601 = .ok (.iadd, 1) := by decide +kernel
theorem dL_law_602 : decode cL_law 602 = .ok (.iaload, 1) := by decide +kernel
theorem dL_law_603 : decode cL_law 603 = .ok (.aload_n 0, 1) := by decide +kernel
theorem dL_law_604 : decode cL_law 604 = .ok (.iload_n 3, 1) := by decide +kernel
theorem dL_law_605 : decode cL_law 605 = .ok (.iconst 2, 1) := by decide +kernel
theorem dL_law_606 : decode cL_law 606 = .ok (.iadd, 1) := by decide +kernel
theorem dL_law_607 : decode cL_law 607 = .ok (.iaload, 1) := by decide +kernel
theorem dL_law_608 : decode cL_law 608 = .ok (.invokevirtual 57, 3) := by decide +kernel
theorem dL_law_611 : decode cL_law 611 = .ok (.if_icmp .eq 819, 3) := by decide +kernel
theorem dL_law_614 : decode cL_law 614 = .ok (.iconst 0, 1) := by decide +kernel
theorem dL_law_615 : decode cL_law 615 = .ok (.ireturn, 1) := by decide +kernel
theorem dL_law_616 : decode cL_law 616 = .ok (.aload_n 1, 1) := by decide +kernel
theorem dL_law_617 : decode cL_law 617 = .ok (.aload_n 0, 1) := by decide +kernel
theorem dL_law_618 : decode cL_law 618 = .ok (.iload_n 3, 1) := by decide +kernel
theorem dL_law_619 : decode cL_law 619 = .ok (.iconst 1, 1) := by decide +kernel
theorem dL_law_620 : decode cL_law 620 = .ok (.iadd, 1) := by decide +kernel
theorem dL_law_621 : decode cL_law 621 = .ok (.iaload, 1) := by decide +kernel
theorem dL_law_622 : decode cL_law 622 = .ok (.aload_n 0, 1) := by decide +kernel
theorem dL_law_623 : decode cL_law 623 = .ok (.iload_n 3, 1) := by decide +kernel
theorem dL_law_624 : decode cL_law 624 = .ok (.iconst 2, 1) := by decide +kernel
theorem dL_law_625 : decode cL_law 625 = .ok (.iadd, 1) := by decide +kernel
theorem dL_law_626 : decode cL_law 626 = .ok (.iaload, 1) := by decide +kernel
theorem dL_law_627 : decode cL_law 627 = .ok (.aload_n 0, 1) := by decide +kernel
theorem dL_law_628 : decode cL_law 628 = .ok (.iload_n 3, 1) := by decide +kernel
theorem dL_law_629 : decode cL_law 629 = .ok (.iconst 3, 1) := by decide +kernel
theorem dL_law_630 : decode cL_law 630 = .ok (.iadd, 1) := by decide +kernel
theorem dL_law_631 : decode cL_law 631 = .ok (.iaload, 1) := by decide +kernel
theorem dL_law_632 : decode cL_law 632 = .ok (.invokevirtual 58, 3) := by decide +kernel
theorem dL_law_635 : decode cL_law 635 = .ok (.aload_n 2, 1) := by decide +kernel
theorem dL_law_636 : decode cL_law 636 = .ok (.aload_n 0, 1) := by decide +kernel
theorem dL_law_637 : decode cL_law 637 = .ok (.iload_n 3, 1) := by decide +kernel
theorem dL_law_638 : decode cL_law 638 = .ok (.iconst 1, 1) := by decide +kernel
theorem dL_law_639 : decode cL_law 639 = .ok (.iadd, 1) := by decide +kernel
theorem dL_law_640 : decode cL_law 640 = .ok (.iaload, 1) := by decide +kernel
theorem dL_law_641 : decode cL_law 641 = .ok (.aload_n 0, 1) := by decide +kernel
theorem dL_law_642 : decode cL_law 642 = .ok (.iload_n 3, 1) := by decide +kernel
theorem dL_law_643 : decode cL_law 643 = .ok (.iconst 2, 1) := by decide +kernel
theorem dL_law_644 : decode cL_law 644 = .ok (.iadd, 1) := by decide +kernel
theorem dL_law_645 : decode cL_law 645 = .ok (.iaload, 1) := by decide +kernel
theorem dL_law_646 : decode cL_law 646 = .ok (.aload_n 0, 1) := by decide +kernel
theorem dL_law_647 : decode cL_law 647 = .ok (.iload_n 3, 1) := by decide +kernel
theorem dL_law_648 : decode cL_law 648 = .ok (.iconst 3, 1) := by decide +kernel
theorem dL_law_649 : decode cL_law 649 = .ok (.iadd, 1) := by decide +kernel
theorem dL_law_650 : decode cL_law 650 = .ok (.iaload, 1) := by decide +kernel
theorem dL_law_651 : decode cL_law 651 = .ok (.invokevirtual 61, 3) := by decide +kernel
theorem dL_law_654 : decode cL_law 654 = .ok (.if_icmp .eq 776, 3) := by decide +kernel
theorem dL_law_657 : decode cL_law 657 = .ok (.iconst 0, 1) := by decide +kernel
theorem dL_law_658 : decode cL_law 658 = .ok (.ireturn, 1) := by decide +kernel
theorem dL_law_659 : decode cL_law 659 = .ok (.aload_n 1, 1) := by decide +kernel
theorem dL_law_660 : decode cL_law 660 = .ok (.aload_n 0, 1) := by decide +kernel
theorem dL_law_661 : decode cL_law 661 = .ok (.iload_n 3, 1) := by decide +kernel
theorem dL_law_662 : decode cL_law 662 = .ok (.iconst 1, 1) := by decide +kernel
theorem dL_law_663 : decode cL_law 663 = .ok (.iadd, 1) := by decide +kernel
theorem dL_law_664 : decode cL_law 664 = .ok (.iaload, 1) := by decide +kernel
theorem dL_law_665 : decode cL_law 665 = .ok (.aload_n 0, 1) := by decide +kernel
theorem dL_law_666 : decode cL_law 666 = .ok (.iload_n 3, 1) := by decide +kernel
theorem dL_law_667 : decode cL_law 667 = .ok (.iconst 2, 1) := by decide +kernel
theorem dL_law_668 : decode cL_law 668 = .ok (.iadd, 1) := by decide +kernel
theorem dL_law_669 : decode cL_law 669 = .ok (.iaload, 1) := by decide +kernel
theorem dL_law_670 : decode cL_law 670 = .ok (.invokevirtual 62, 3) := by decide +kernel
theorem dL_law_673 : decode cL_law 673 = .ok (.aload_n 2, 1) := by decide +kernel
theorem dL_law_674 : decode cL_law 674 = .ok (.aload_n 0, 1) := by decide +kernel
theorem dL_law_675 : decode cL_law 675 = .ok (.iload_n 3, 1) := by decide +kernel
theorem dL_law_676 : decode cL_law 676 = .ok (.iconst 1, 1) := by decide +kernel
theorem dL_law_677 : decode cL_law 677 = .ok (.iadd, 1) := by decide +kernel
theorem dL_law_678 : decode cL_law 678 = .ok (.iaload, 1) := by decide +kernel
theorem dL_law_679 : decode cL_law 679 = .ok (.aload_n 0, 1) := by decide +kernel
theorem dL_law_680 : decode cL_law 680 = .ok (.iload_n 3, 1) := by decide +kernel
theorem dL_law_681 : decode cL_law 681 = .ok (.iconst 2, 1) := by decide +kernel
theorem dL_law_682 : decode cL_law 682 = .ok (.iadd, 1) := by decide +kernel
theorem dL_law_683 : decode cL_law 683 = .ok (.iaload, 1) := by decide +kernel
theorem dL_law_684 : decode cL_law 684 = .ok (.invokevirtual 65, 3) := by decide +kernel
theorem dL_law_687 : decode cL_law 687 = .ok (.if_icmp .eq 743, 3) := by decide +kernel
theorem dL_law_690 : decode cL_law 690 = .ok (.iconst 0, 1) := by decide +kernel
theorem dL_law_691 : decode cL_law 691 = .ok (.ireturn, 1) := by decide +kernel
theorem dL_law_692 : decode cL_law 692 = .ok (.aload_n 1, 1) := by decide +kernel
theorem dL_law_693 : decode cL_law 693 = .ok (.aload_n 0, 1) := by decide +kernel
theorem dL_law_694 : decode cL_law 694 = .ok (.iload_n 3, 1) := by decide +kernel
theorem dL_law_695 : decode cL_law 695 = .ok (.iconst 1, 1) := by decide +kernel
theorem dL_law_696 : decode cL_law 696 = .ok (.iadd, 1) := by decide +kernel
theorem dL_law_697 : decode cL_law 697 = .ok (.iaload, 1) := by decide +kernel
theorem dL_law_698 : decode cL_law 698 = .ok (.aload_n 0, 1) := by decide +kernel
theorem dL_law_699 : decode cL_law 699 = .ok (.iload_n 3, 1) := by decide +kernel
theorem dL_law_700 : decode cL_law 700 = .ok (.iconst 2, 1) := by decide +kernel
theorem dL_law_701 : decode cL_law 701 = .ok (.iadd, 1) := by decide +kernel
theorem dL_law_702 : decode cL_law 702 = .ok (.iaload, 1) := by decide +kernel
theorem dL_law_703 : decode cL_law 703 = .ok (.invokevirtual 66, 3) := by decide +kernel
theorem dL_law_706 : decode cL_law 706 = .ok (.aload_n 2, 1) := by decide +kernel
theorem dL_law_707 : decode cL_law 707 = .ok (.aload_n 0, 1) := by decide +kernel
theorem dL_law_708 : decode cL_law 708 = .ok (.iload_n 3, 1) := by decide +kernel
theorem dL_law_709 : decode cL_law 709 = .ok (.iconst 1, 1) := by decide +kernel
theorem dL_law_710 : decode cL_law 710 = .ok (.iadd, 1) := by decide +kernel
theorem dL_law_711 : decode cL_law 711 = .ok (.iaload, 1) := by decide +kernel
theorem dL_law_712 : decode cL_law 712 = .ok (.aload_n 0, 1) := by decide +kernel
theorem dL_law_713 : decode cL_law 713 = .ok (.iload_n 3, 1) := by decide +kernel
theorem dL_law_714 : decode cL_law 714 = .ok (.iconst 2, 1) := by decide +kernel
theorem dL_law_715 : decode cL_law 715 = .ok (.iadd, 1) := by decide +kernel
theorem dL_law_716 : decode cL_law 716 = .ok (.iaload, 1) := by decide +kernel
theorem dL_law_717 : decode cL_law 717 = .ok (.invokevirtual 69, 3) := by decide +kernel
theorem dL_law_720 : decode cL_law 720 = .ok (.if_icmp .eq 710, 3) := by decide +kernel
theorem dL_law_723 : decode cL_law 723 = .ok (.iconst 0, 1) := by decide +kernel
theorem dL_law_724 : decode cL_law 724 = .ok (.ireturn, 1) := by decide +kernel
theorem dL_law_725 : decode cL_law 725 = .ok (.aload_n 1, 1) := by decide +kernel
theorem dL_law_726 : decode cL_law 726 = .ok (.aload_n 0, 1) := by decide +kernel
theorem dL_law_727 : decode cL_law 727 = .ok (.iload_n 3, 1) := by decide +kernel
theorem dL_law_728 : decode cL_law 728 = .ok (.iconst 1, 1) := by decide +kernel
theorem dL_law_729 : decode cL_law 729 = .ok (.iadd, 1) := by decide +kernel
theorem dL_law_730 : decode cL_law 730 = .ok (.iaload, 1) := by decide +kernel
theorem dL_law_731 : decode cL_law 731 = .ok (.aload_n 0, 1) := by decide +kernel
theorem dL_law_732 : decode cL_law 732 = .ok (.iload_n 3, 1) := by decide +kernel
theorem dL_law_733 : decode cL_law 733 = .ok (.iconst 2, 1) := by decide +kernel
theorem dL_law_734 : decode cL_law 734 = .ok (.iadd, 1) := by decide +kernel
theorem dL_law_735 : decode cL_law 735 = .ok (.iaload, 1) := by decide +kernel
theorem dL_law_736 : decode cL_law 736 = .ok (.invokevirtual 70, 3) := by decide +kernel
theorem dL_law_739 : decode cL_law 739 = .ok (.aload_n 2, 1) := by decide +kernel
theorem dL_law_740 : decode cL_law 740 = .ok (.aload_n 0, 1) := by decide +kernel
theorem dL_law_741 : decode cL_law 741 = .ok (.iload_n 3, 1) := by decide +kernel
theorem dL_law_742 : decode cL_law 742 = .ok (.iconst 1, 1) := by decide +kernel
theorem dL_law_743 : decode cL_law 743 = .ok (.iadd, 1) := by decide +kernel
theorem dL_law_744 : decode cL_law 744 = .ok (.iaload, 1) := by decide +kernel
theorem dL_law_745 : decode cL_law 745 = .ok (.aload_n 0, 1) := by decide +kernel
theorem dL_law_746 : decode cL_law 746 = .ok (.iload_n 3, 1) := by decide +kernel
theorem dL_law_747 : decode cL_law 747 = .ok (.iconst 2, 1) := by decide +kernel
theorem dL_law_748 : decode cL_law 748 = .ok (.iadd, 1) := by decide +kernel
theorem dL_law_749 : decode cL_law 749 = .ok (.iaload, 1) := by decide +kernel
theorem dL_law_750 : decode cL_law 750 = .ok (.invokevirtual 73, 3) := by decide +kernel
theorem dL_law_753 : decode cL_law 753 = .ok (.if_icmp .eq 677, 3) := by decide +kernel
theorem dL_law_756 : decode cL_law 756 = .ok (.iconst 0, 1) := by decide +kernel
theorem dL_law_757 : decode cL_law 757 = .ok (.ireturn, 1) := by decide +kernel
theorem dL_law_758 : decode cL_law 758 = .ok (.aload_n 1, 1) := by decide +kernel
theorem dL_law_759 : decode cL_law 759 = .ok (.invokevirtual 74, 3) := by decide +kernel
theorem dL_law_762 : decode cL_law 762 = .ok (.aload_n 2, 1) := by decide +kernel
theorem dL_law_763 : decode cL_law 763 = .ok (.invokevirtual 78, 3) := by decide +kernel
theorem dL_law_766 : decode cL_law 766 = .ok (.if_icmp .eq 664, 3) := by decide +kernel
theorem dL_law_769 : decode cL_law 769 = .ok (.iconst 0, 1) := by decide +kernel
theorem dL_law_770 : decode cL_law 770 = .ok (.ireturn, 1) := by decide +kernel
theorem dL_law_771 : decode cL_law 771 = .ok (.aload_n 1, 1) := by decide +kernel
theorem dL_law_772 : decode cL_law 772 = .ok (.invokevirtual 79, 3) := by decide +kernel
theorem dL_law_775 : decode cL_law 775 = .ok (.aload_n 2, 1) := by decide +kernel
theorem dL_law_776 : decode cL_law 776 = .ok (.invokevirtual 82, 3) := by decide +kernel
theorem dL_law_779 : decode cL_law 779 = .ok (.if_icmp .eq 651, 3) := by decide +kernel
theorem dL_law_782 : decode cL_law 782 = .ok (.iconst 0, 1) := by decide +kernel
theorem dL_law_783 : decode cL_law 783 = .ok (.ireturn, 1) := by decide +kernel
theorem dL_law_784 : decode cL_law 784 = .ok (.aload_n 1, 1) := by decide +kernel
theorem dL_law_785 : decode cL_law 785 = .ok (.aload_n 0, 1) := by decide +kernel
theorem dL_law_786 : decode cL_law 786 = .ok (.iload_n 3, 1) := by decide +kernel
theorem dL_law_787 : decode cL_law 787 = .ok (.iconst 1, 1) := by decide +kernel
theorem dL_law_788 : decode cL_law 788 = .ok (.iadd, 1) := by decide +kernel
theorem dL_law_789 : decode cL_law 789 = .ok (.iaload, 1) := by decide +kernel
theorem dL_law_790 : decode cL_law 790 = .ok (.invokevirtual 83, 3) := by decide +kernel
theorem dL_law_793 : decode cL_law 793 = .ok (.aload_n 2, 1) := by decide +kernel
theorem dL_law_794 : decode cL_law 794 = .ok (.aload_n 0, 1) := by decide +kernel
theorem dL_law_795 : decode cL_law 795 = .ok (.iload_n 3, 1) := by decide +kernel
theorem dL_law_796 : decode cL_law 796 = .ok (.iconst 1, 1) := by decide +kernel
theorem dL_law_797 : decode cL_law 797 = .ok (.iadd, 1) := by decide +kernel
theorem dL_law_798 : decode cL_law 798 = .ok (.iaload, 1) := by decide +kernel
theorem dL_law_799 : decode cL_law 799 = .ok (.invokevirtual 86, 3) := by decide +kernel
theorem dL_law_802 : decode cL_law 802 = .ok (.if_icmp .eq 628, 3) := by decide +kernel
theorem dL_law_805 : decode cL_law 805 = .ok (.iconst 0, 1) := by decide +kernel
theorem dL_law_806 : decode cL_law 806 = .ok (.ireturn, 1) := by decide +kernel
theorem dL_law_807 : decode cL_law 807 = .ok (.aload_n 1, 1) := by decide +kernel
theorem dL_law_808 : decode cL_law 808 = .ok (.aload_n 0, 1) := by decide +kernel
theorem dL_law_809 : decode cL_law 809 = .ok (.iload_n 3, 1) := by decide +kernel
theorem dL_law_810 : decode cL_law 810 = .ok (.iconst 1, 1) := by decide +kernel
theorem dL_law_811 : decode cL_law 811 = .ok (.iadd, 1) := by decide +kernel
theorem dL_law_812 : decode cL_law 812 = .ok (.iaload, 1) := by decide +kernel
theorem dL_law_813 : decode cL_law 813 = .ok (.invokevirtual 87, 3) := by decide +kernel
theorem dL_law_816 : decode cL_law 816 = .ok (.aload_n 2, 1) := by decide +kernel
theorem dL_law_817 : decode cL_law 817 = .ok (.aload_n 0, 1) := by decide +kernel
theorem dL_law_818 : decode cL_law 818 = .ok (.iload_n 3, 1) := by decide +kernel
theorem dL_law_819 : decode cL_law 819 = .ok (.iconst 1, 1) := by decide +kernel
theorem dL_law_820 : decode cL_law 820 = .ok (.iadd, 1) := by decide +kernel
theorem dL_law_821 : decode cL_law 821 = .ok (.iaload, 1) := by decide +kernel
theorem dL_law_822 : decode cL_law 822 = .ok (.invokevirtual 90, 3) := by decide +kernel
theorem dL_law_825 : decode cL_law 825 = .ok (.if_icmp .eq 605, 3) := by decide +kernel
theorem dL_law_828 : decode cL_law 828 = .ok (.iconst 0, 1) := by decide +kernel
theorem dL_law_829 : decode cL_law 829 = .ok (.ireturn, 1) := by decide +kernel
theorem dL_law_830 : decode cL_law 830 = .ok (.aload_n 1, 1) := by decide +kernel
theorem dL_law_831 : decode cL_law 831 = .ok (.aload_n 0, 1) := by decide +kernel
theorem dL_law_832 : decode cL_law 832 = .ok (.iload_n 3, 1) := by decide +kernel
theorem dL_law_833 : decode cL_law 833 = .ok (.iconst 1, 1) := by decide +kernel
theorem dL_law_834 : decode cL_law 834 = .ok (.iadd, 1) := by decide +kernel
theorem dL_law_835 : decode cL_law 835 = .ok (.iaload, 1) := by decide +kernel
theorem dL_law_836 : decode cL_law 836 = .ok (.aload_n 0, 1) := by decide +kernel
theorem dL_law_837 : decode cL_law 837 = .ok (.iload_n 3, 1) := by decide +kernel
theorem dL_law_838 : decode cL_law 838 = .ok (.iconst 2, 1) := by decide +kernel
theorem dL_law_839 : decode cL_law 839 = .ok (.iadd, 1) := by decide +kernel
theorem dL_law_840 : decode cL_law 840 = .ok (.iaload, 1) := by decide +kernel
theorem dL_law_841 : decode cL_law 841 = .ok (.invokevirtual 91, 3) := by decide +kernel
theorem dL_law_844 : decode cL_law 844 = .ok (.aload_n 2, 1) := by decide +kernel
theorem dL_law_845 : decode cL_law 845 = .ok (.aload_n 0, 1) := by decide +kernel
theorem dL_law_846 : decode cL_law 846 = .ok (.iload_n 3, 1) := by decide +kernel
theorem dL_law_847 : decode cL_law 847 = .ok (.iconst 1, 1) := by decide +kernel
theorem dL_law_848 : decode cL_law 848 = .ok (.iadd, 1) := by decide +kernel
theorem dL_law_849 : decode cL_law 849 = .ok (.iaload, 1) := by decide +kernel
theorem dL_law_850 : decode cL_law 850 = .ok (.aload_n 0, 1) := by decide +kernel
theorem dL_law_851 : decode cL_law 851 = .ok (.iload_n 3, 1) := by decide +kernel
theorem dL_law_852 : decode cL_law 852 = .ok (.iconst 2, 1) := by decide +kernel
theorem dL_law_853 : decode cL_law 853 = .ok (.iadd, 1) := by decide +kernel
theorem dL_law_854 : decode cL_law 854 = .ok (.iaload, 1) := by decide +kernel
theorem dL_law_855 : decode cL_law 855 = .ok (.invokevirtual 94, 3) := by decide +kernel
theorem dL_law_858 : decode cL_law 858 = .ok (.if_icmp .eq 572, 3) := by decide +kernel
theorem dL_law_861 : decode cL_law 861 = .ok (.iconst 0, 1) := by decide +kernel
theorem dL_law_862 : decode cL_law 862 = .ok (.ireturn, 1) := by decide +kernel
theorem dL_law_863 : decode cL_law 863 = .ok (.aload_n 1, 1) := by decide +kernel
theorem dL_law_864 : decode cL_law 864 = .ok (.aload_n 0, 1) := by decide +kernel
theorem dL_law_865 : decode cL_law 865 = .ok (.iload_n 3, 1) := by decide +kernel
theorem dL_law_866 : decode cL_law 866 = .ok (.iconst 1, 1) := by decide +kernel
theorem dL_law_867 : decode cL_law 867 = .ok (.iadd, 1) := by decide +kernel
theorem dL_law_868 : decode cL_law 868 = .ok (.iaload, 1) := by decide +kernel
theorem dL_law_869 : decode cL_law 869 = .ok (.aload_n 0, 1) := by decide +kernel
theorem dL_law_870 : decode cL_law 870 = .ok (.iload_n 3, 1) := by decide +kernel
theorem dL_law_871 : decode cL_law 871 = .ok (.iconst 2, 1) := by decide +kernel
theorem dL_law_872 : decode cL_law 872 = .ok (.iadd, 1) := by decide +kernel
theorem dL_law_873 : decode cL_law 873 = .ok (.iaload, 1) := by decide +kernel
theorem dL_law_874 : decode cL_law 874 = .ok (.invokevirtual 95, 3) := by decide +kernel
theorem dL_law_877 : decode cL_law 877 = .ok (.aload_n 2, 1) := by decide +kernel
theorem dL_law_878 : decode cL_law 878 = .ok (.aload_n 0, 1) := by decide +kernel
theorem dL_law_879 : decode cL_law 879 = .ok (.iload_n 3, 1) := by decide +kernel
theorem dL_law_880 : decode cL_law 880 = .ok (.iconst 1, 1) := by decide +kernel
theorem dL_law_881 : decode cL_law 881 = .ok (.iadd, 1) := by decide +kernel
theorem dL_law_882 : decode cL_law 882 = .ok (.iaload, 1) := by decide +kernel
theorem dL_law_883 : decode cL_law 883 = .ok (.aload_n 0, 1) := by decide +kernel
theorem dL_law_884 : decode cL_law 884 = .ok (.iload_n 3, 1) := by decide +kernel
theorem dL_law_885 : decode cL_law 885 = .ok (.iconst 2, 1) := by decide +kernel
theorem dL_law_886 : decode cL_law 886 = .ok (.iadd, 1) := by decide +kernel
theorem dL_law_887 : decode cL_law 887 = .ok (.iaload, 1) := by decide +kernel
theorem dL_law_888 : decode cL_law 888 = .ok (.invokevirtual 98, 3) := by decide +kernel
theorem dL_law_891 : decode cL_law 891 = .ok (.if_icmp .eq 539, 3) := by decide +kernel
theorem dL_law_894 : decode cL_law 894 = .ok (.iconst 0, 1) := by decide +kernel
theorem dL_law_895 : decode cL_law 895 = .ok (.ireturn, 1) := by decide +kernel
theorem dL_law_896 : decode cL_law 896 = .ok (.aload_n 1, 1) := by decide +kernel
theorem dL_law_897 : decode cL_law 897 = .ok (.aload_n 0, 1) := by decide +kernel
theorem dL_law_898 : decode cL_law 898 = .ok (.iload_n 3, 1) := by decide +kernel
theorem dL_law_899 : decode cL_law 899 = .ok (.iconst 1, 1) := by decide +kernel
theorem dL_law_900 : decode cL_law 900 = .ok (.iadd, 1) := by decide +kernel
theorem dL_law_901 : decode cL_law 901 = .ok (.iaload, 1) := by decide +kernel
theorem dL_law_902 : decode cL_law 902 = .ok (.invokevirtual 99, 3) := by decide +kernel
theorem dL_law_905 : decode cL_law 905 = .ok (.aload_n 2, 1) := by decide +kernel
theorem dL_law_906 : decode cL_law 906 = .ok (.aload_n 0, 1) := by decide +kernel
theorem dL_law_907 : decode cL_law 907 = .ok (.iload_n 3, 1) := by decide +kernel
theorem dL_law_908 : decode cL_law 908 = .ok (.iconst 1, 1) := by decide +kernel
theorem dL_law_909 : decode cL_law 909 = .ok (.iadd, 1) := by decide +kernel
theorem dL_law_910 : decode cL_law 910 = .ok (.iaload, 1) := by decide +kernel
theorem dL_law_911 : decode cL_law 911 = .ok (.invokevirtual 102, 3) := by decide +kernel
theorem dL_law_914 : decode cL_law 914 = .ok (.if_icmp .eq 516, 3) := by decide +kernel
theorem dL_law_917 : decode cL_law 917 = .ok (.iconst 0, 1) := by decide +kernel
theorem dL_law_918 : decode cL_law 918 = .ok (.ireturn, 1) := by decide +kernel
theorem dL_law_919 : decode cL_law 919 = .ok (.aload_n 1, 1) := by decide +kernel
theorem dL_law_920 : decode cL_law 920 = .ok (.aload_n 0, 1) := by decide +kernel
theorem dL_law_921 : decode cL_law 921 = .ok (.iload_n 3, 1) := by decide +kernel
theorem dL_law_922 : decode cL_law 922 = .ok (.iconst 1, 1) := by decide +kernel
theorem dL_law_923 : decode cL_law 923 = .ok (.iadd, 1) := by decide +kernel
theorem dL_law_924 : decode cL_law 924 = .ok (.iaload, 1) := by decide +kernel
theorem dL_law_925 : decode cL_law 925 = .ok (.invokevirtual 103, 3) := by decide +kernel
theorem dL_law_928 : decode cL_law 928 = .ok (.aload_n 2, 1) := by decide +kernel
theorem dL_law_929 : decode cL_law 929 = .ok (.aload_n 0, 1) := by decide +kernel
theorem dL_law_930 : decode cL_law 930 = .ok (.iload_n 3, 1) := by decide +kernel
theorem dL_law_931 : decode cL_law 931 = .ok (.iconst 1, 1) := by decide +kernel
theorem dL_law_932 : decode cL_law 932 = .ok (.iadd, 1) := by decide +kernel
theorem dL_law_933 : decode cL_law 933 = .ok (.iaload, 1) := by decide +kernel
theorem dL_law_934 : decode cL_law 934 = .ok (.invokevirtual 106, 3) := by decide +kernel
theorem dL_law_937 : decode cL_law 937 = .ok (.if_icmp .eq 493, 3) := by decide +kernel
theorem dL_law_940 : decode cL_law 940 = .ok (.iconst 0, 1) := by decide +kernel
theorem dL_law_941 : decode cL_law 941 = .ok (.ireturn, 1) := by decide +kernel
theorem dL_law_942 : decode cL_law 942 = .ok (.aload_n 1, 1) := by decide +kernel
theorem dL_law_943 : decode cL_law 943 = .ok (.aload_n 0, 1) := by decide +kernel
theorem dL_law_944 : decode cL_law 944 = .ok (.iload_n 3, 1) := by decide +kernel
theorem dL_law_945 : decode cL_law 945 = .ok (.iconst 1, 1) := by decide +kernel
theorem dL_law_946 : decode cL_law 946 = .ok (.iadd, 1) := by decide +kernel
theorem dL_law_947 : decode cL_law 947 = .ok (.iaload, 1) := by decide +kernel
theorem dL_law_948 : decode cL_law 948 = .ok (.aload_n 0, 1) := by decide +kernel
theorem dL_law_949 : decode cL_law 949 = .ok (.iload_n 3, 1) := by decide +kernel
theorem dL_law_950 : decode cL_law 950 = .ok (.iconst 2, 1) := by decide +kernel
theorem dL_law_951 : decode cL_law 951 = .ok (.iadd, 1) := by decide +kernel
theorem dL_law_952 : decode cL_law 952 = .ok (.iaload, 1) := by decide +kernel
theorem dL_law_953 : decode cL_law 953 = .ok (.aload_n 0, 1) := by decide +kernel
theorem dL_law_954 : decode cL_law 954 = .ok (.iload_n 3, 1) := by decide +kernel
theorem dL_law_955 : decode cL_law 955 = .ok (.iconst 3, 1) := by decide +kernel
theorem dL_law_956 : decode cL_law 956 = .ok (.iadd, 1) := by decide +kernel
theorem dL_law_957 : decode cL_law 957 = .ok (.iaload, 1) := by decide +kernel
theorem dL_law_958 : decode cL_law 958 = .ok (.invokevirtual 107, 3) := by decide +kernel
theorem dL_law_961 : decode cL_law 961 = .ok (.aload_n 2, 1) := by decide +kernel
theorem dL_law_962 : decode cL_law 962 = .ok (.aload_n 0, 1) := by decide +kernel
theorem dL_law_963 : decode cL_law 963 = .ok (.iload_n 3, 1) := by decide +kernel
theorem dL_law_964 : decode cL_law 964 = .ok (.iconst 1, 1) := by decide +kernel
theorem dL_law_965 : decode cL_law 965 = .ok (.iadd, 1) := by decide +kernel
theorem dL_law_966 : decode cL_law 966 = .ok (.iaload, 1) := by decide +kernel
theorem dL_law_967 : decode cL_law 967 = .ok (.aload_n 0, 1) := by decide +kernel
theorem dL_law_968 : decode cL_law 968 = .ok (.iload_n 3, 1) := by decide +kernel
theorem dL_law_969 : decode cL_law 969 = .ok (.iconst 2, 1) := by decide +kernel
theorem dL_law_970 : decode cL_law 970 = .ok (.iadd, 1) := by decide +kernel
theorem dL_law_971 : decode cL_law 971 = .ok (.iaload, 1) := by decide +kernel
theorem dL_law_972 : decode cL_law 972 = .ok (.aload_n 0, 1) := by decide +kernel
theorem dL_law_973 : decode cL_law 973 = .ok (.iload_n 3, 1) := by decide +kernel
theorem dL_law_974 : decode cL_law 974 = .ok (.iconst 3, 1) := by decide +kernel
theorem dL_law_975 : decode cL_law 975 = .ok (.iadd, 1) := by decide +kernel
theorem dL_law_976 : decode cL_law 976 = .ok (.iaload, 1) := by decide +kernel
theorem dL_law_977 : decode cL_law 977 = .ok (.invokevirtual 110, 3) := by decide +kernel
theorem dL_law_980 : decode cL_law 980 = .ok (.if_icmp .eq 450, 3) := by decide +kernel
theorem dL_law_983 : decode cL_law 983 = .ok (.iconst 0, 1) := by decide +kernel
theorem dL_law_984 : decode cL_law 984 = .ok (.ireturn, 1) := by decide +kernel
theorem dL_law_985 : decode cL_law 985 = .ok (.aload_n 1, 1) := by decide +kernel
theorem dL_law_986 : decode cL_law 986 = .ok (.aload_n 0, 1) := by decide +kernel
theorem dL_law_987 : decode cL_law 987 = .ok (.iload_n 3, 1) := by decide +kernel
theorem dL_law_988 : decode cL_law 988 = .ok (.iconst 1, 1) := by decide +kernel
theorem dL_law_989 : decode cL_law 989 = .ok (.iadd, 1) := by decide +kernel
theorem dL_law_990 : decode cL_law 990 = .ok (.iaload, 1) := by decide +kernel
theorem dL_law_991 : decode cL_law 991 = .ok (.invokevirtual 111, 3) := by decide +kernel
theorem dL_law_994 : decode cL_law 994 = .ok (.aload_n 2, 1) := by decide +kernel
theorem dL_law_995 : decode cL_law 995 = .ok (.aload_n 0, 1) := by decide +kernel
theorem dL_law_996 : decode cL_law 996 = .ok (.iload_n 3, 1) := by decide +kernel
theorem dL_law_997 : decode cL_law 997 = .ok (.iconst 1, 1) := by decide +kernel
theorem dL_law_998 : decode cL_law 998 = .ok (.iadd, 1) := by decide +kernel
theorem dL_law_999 : decode cL_law 999 = .ok (.iaload, 1) := by decide +kernel
theorem dL_law_1000 : decode cL_law 1000 = .ok (.invokevirtual 114, 3) := by decide +kernel
theorem dL_law_1003 : decode cL_law 1003 = .ok (.if_icmp .eq 427, 3) := by decide +kernel
theorem dL_law_1006 : decode cL_law 1006 = .ok (.iconst 0, 1) := by decide +kernel
theorem dL_law_1007 : decode cL_law 1007 = .ok (.ireturn, 1) := by decide +kernel
theorem dL_law_1008 : decode cL_law 1008 = .ok (.aload_n 1, 1) := by decide +kernel
theorem dL_law_1009 : decode cL_law 1009 = .ok (.aload_n 0, 1) := by decide +kernel
theorem dL_law_1010 : decode cL_law 1010 = .ok (.iload_n 3, 1) := by decide +kernel
theorem dL_law_1011 : decode cL_law 1011 = .ok (.iconst 1, 1) := by decide +kernel
theorem dL_law_1012 : decode cL_law 1012 = .ok (.iadd, 1) := by decide +kernel
theorem dL_law_1013 : decode cL_law 1013 = .ok (.iaload, 1) := by decide +kernel
theorem dL_law_1014 : decode cL_law 1014 = .ok (.aload_n 0, 1) := by decide +kernel
theorem dL_law_1015 : decode cL_law 1015 = .ok (.iload_n 3, 1) := by decide +kernel
theorem dL_law_1016 : decode cL_law 1016 = .ok (.iconst 2, 1) := by decide +kernel
theorem dL_law_1017 : decode cL_law 1017 = .ok (.iadd, 1) := by decide +kernel
theorem dL_law_1018 : decode cL_law 1018 = .ok (.iaload, 1) := by decide +kernel
theorem dL_law_1019 : decode cL_law 1019 = .ok (.invokevirtual 115, 3) := by decide +kernel
theorem dL_law_1022 : decode cL_law 1022 = .ok (.aload_n 2, 1) := by decide +kernel
theorem dL_law_1023 : decode cL_law 1023 = .ok (.aload_n 0, 1) := by decide +kernel
theorem dL_law_1024 : decode cL_law 1024 = .ok (.iload_n 3, 1) := by decide +kernel
theorem dL_law_1025 : decode cL_law 1025 = .ok (.iconst 1, 1) := by decide +kernel
theorem dL_law_1026 : decode cL_law 1026 = .ok (.iadd, 1) := by decide +kernel
theorem dL_law_1027 : decode cL_law 1027 = .ok (.iaload, 1) := by decide +kernel
theorem dL_law_1028 : decode cL_law 1028 = .ok (.aload_n 0, 1) := by decide +kernel
theorem dL_law_1029 : decode cL_law 1029 = .ok (.iload_n 3, 1) := by decide +kernel
theorem dL_law_1030 : decode cL_law 1030 = .ok (.iconst 2, 1) := by decide +kernel
theorem dL_law_1031 : decode cL_law 1031 = .ok (.iadd, 1) := by decide +kernel
theorem dL_law_1032 : decode cL_law 1032 = .ok (.iaload, 1) := by decide +kernel
theorem dL_law_1033 : decode cL_law 1033 = .ok (.invokevirtual 118, 3) := by decide +kernel
theorem dL_law_1036 : decode cL_law 1036 = .ok (.if_icmp .eq 394, 3) := by decide +kernel
theorem dL_law_1039 : decode cL_law 1039 = .ok (.iconst 0, 1) := by decide +kernel
theorem dL_law_1040 : decode cL_law 1040 = .ok (.ireturn, 1) := by decide +kernel
theorem dL_law_1041 : decode cL_law 1041 = .ok (.aload_n 1, 1) := by decide +kernel
theorem dL_law_1042 : decode cL_law 1042 = .ok (.aload_n 0, 1) := by decide +kernel
theorem dL_law_1043 : decode cL_law 1043 = .ok (.iload_n 3, 1) := by decide +kernel
theorem dL_law_1044 : decode cL_law 1044 = .ok (.iconst 1, 1) := by decide +kernel
theorem dL_law_1045 : decode cL_law 1045 = .ok (.iadd, 1) := by decide +kernel
theorem dL_law_1046 : decode cL_law 1046 = .ok (.iaload, 1) := by decide +kernel
theorem dL_law_1047 : decode cL_law 1047 = .ok (.aload_n 0, 1) := by decide +kernel
theorem dL_law_1048 : decode cL_law 1048 = .ok (.iload_n 3, 1) := by decide +kernel
theorem dL_law_1049 : decode cL_law 1049 = .ok (.iconst 2, 1) := by decide +kernel
theorem dL_law_1050 : decode cL_law 1050 = .ok (.iadd, 1) := by decide +kernel
theorem dL_law_1051 : decode cL_law 1051 = .ok (.iaload, 1) := by decide +kernel
theorem dL_law_1052 : decode cL_law 1052 = .ok (.invokevirtual 119, 3) := by decide +kernel
theorem dL_law_1055 : decode cL_law 1055 = .ok (.aload_n 2, 1) := by decide +kernel
theorem dL_law_1056 : decode cL_law 1056 = .ok (.aload_n 0, 1) := by decide +kernel
theorem dL_law_1057 : decode cL_law 1057 = .ok (.iload_n 3, 1) := by decide +kernel
theorem dL_law_1058 : decode cL_law 1058 = .ok (.iconst 1, 1) := by decide +kernel
theorem dL_law_1059 : decode cL_law 1059 = .ok (.iadd, 1) := by decide +kernel
theorem dL_law_1060 : decode cL_law 1060 = .ok (.iaload, 1) := by decide +kernel
theorem dL_law_1061 : decode cL_law 1061 = .ok (.aload_n 0, 1) := by decide +kernel
theorem dL_law_1062 : decode cL_law 1062 = .ok (.iload_n 3, 1) := by decide +kernel
theorem dL_law_1063 : decode cL_law 1063 = .ok (.iconst 2, 1) := by decide +kernel
theorem dL_law_1064 : decode cL_law 1064 = .ok (.iadd, 1) := by decide +kernel
theorem dL_law_1065 : decode cL_law 1065 = .ok (.iaload, 1) := by decide +kernel
theorem dL_law_1066 : decode cL_law 1066 = .ok (.invokevirtual 122, 3) := by decide +kernel
theorem dL_law_1069 : decode cL_law 1069 = .ok (.if_icmp .eq 361, 3) := by decide +kernel
theorem dL_law_1072 : decode cL_law 1072 = .ok (.iconst 0, 1) := by decide +kernel
theorem dL_law_1073 : decode cL_law 1073 = .ok (.ireturn, 1) := by decide +kernel
theorem dL_law_1074 : decode cL_law 1074 = .ok (.aload_n 1, 1) := by decide +kernel
theorem dL_law_1075 : decode cL_law 1075 = .ok (.aload_n 0, 1) := by decide +kernel
theorem dL_law_1076 : decode cL_law 1076 = .ok (.iload_n 3, 1) := by decide +kernel
theorem dL_law_1077 : decode cL_law 1077 = .ok (.iconst 1, 1) := by decide +kernel
theorem dL_law_1078 : decode cL_law 1078 = .ok (.iadd, 1) := by decide +kernel
theorem dL_law_1079 : decode cL_law 1079 = .ok (.iaload, 1) := by decide +kernel
theorem dL_law_1080 : decode cL_law 1080 = .ok (.invokevirtual 123, 3) := by decide +kernel
theorem dL_law_1083 : decode cL_law 1083 = .ok (.aload_n 2, 1) := by decide +kernel
theorem dL_law_1084 : decode cL_law 1084 = .ok (.aload_n 0, 1) := by decide +kernel
theorem dL_law_1085 : decode cL_law 1085 = .ok (.iload_n 3, 1) := by decide +kernel
theorem dL_law_1086 : decode cL_law 1086 = .ok (.iconst 1, 1) := by decide +kernel
theorem dL_law_1087 : decode cL_law 1087 = .ok (.iadd, 1) := by decide +kernel
theorem dL_law_1088 : decode cL_law 1088 = .ok (.iaload, 1) := by decide +kernel
theorem dL_law_1089 : decode cL_law 1089 = .ok (.invokevirtual 126, 3) := by decide +kernel
theorem dL_law_1092 : decode cL_law 1092 = .ok (.if_icmp .eq 338, 3) := by decide +kernel
theorem dL_law_1095 : decode cL_law 1095 = .ok (.iconst 0, 1) := by decide +kernel
theorem dL_law_1096 : decode cL_law 1096 = .ok (.ireturn, 1) := by decide +kernel
theorem dL_law_1097 : decode cL_law 1097 = .ok (.aload_n 1, 1) := by decide +kernel
theorem dL_law_1098 : decode cL_law 1098 = .ok (.aload_n 0, 1) := by decide +kernel
theorem dL_law_1099 : decode cL_law 1099 = .ok (.iload_n 3, 1) := by decide +kernel
theorem dL_law_1100 : decode cL_law 1100 = .ok (.iconst 1, 1) := by decide +kernel
theorem dL_law_1101 : decode cL_law 1101 = .ok (.iadd, 1) := by decide +kernel
theorem dL_law_1102 : decode cL_law 1102 = .ok (.iaload, 1) := by decide +kernel
theorem dL_law_1103 : decode cL_law 1103 = .ok (.aload_n 0, 1) := by decide +kernel
theorem dL_law_1104 : decode cL_law 1104 = .ok (.iload_n 3, 1) := by decide +kernel
theorem dL_law_1105 : decode cL_law 1105 = .ok (.iconst 2, 1) := by decide +kernel
theorem dL_law_1106 : decode cL_law 1106 = .ok (.iadd, 1) := by decide +kernel
theorem dL_law_1107 : decode cL_law 1107 = .ok (.iaload, 1) := by decide +kernel
theorem dL_law_1108 : decode cL_law 1108 = .ok (.invokevirtual 127, 3) := by decide +kernel
theorem dL_law_1111 : decode cL_law 1111 = .ok (.aload_n 2, 1) := by decide +kernel
theorem dL_law_1112 : decode cL_law 1112 = .ok (.aload_n 0, 1) := by decide +kernel
theorem dL_law_1113 : decode cL_law 1113 = .ok (.iload_n 3, 1) := by decide +kernel
theorem dL_law_1114 : decode cL_law 1114 = .ok (.iconst 1, 1) := by decide +kernel
theorem dL_law_1115 : decode cL_law 1115 = .ok (.iadd, 1) := by decide +kernel
theorem dL_law_1116 : decode cL_law 1116 = .ok (.iaload, 1) := by decide +kernel
theorem dL_law_1117 : decode cL_law 1117 = .ok (.aload_n 0, 1) := by decide +kernel
theorem dL_law_1118 : decode cL_law 1118 = .ok (.iload_n 3, 1) := by decide +kernel
theorem dL_law_1119 : decode cL_law 1119 = .ok (.iconst 2, 1) := by decide +kernel
theorem dL_law_1120 : decode cL_law 1120 = .ok (.iadd, 1) := by decide +kernel
theorem dL_law_1121 : decode cL_law 1121 = .ok (.iaload, 1) := by decide +kernel
theorem dL_law_1122 : decode cL_law 1122 = .ok (.invokevirtual 130, 3) := by decide +kernel
theorem dL_law_1125 : decode cL_law 1125 = .ok (.if_icmp .eq 305, 3) := by decide +kernel
theorem dL_law_1128 : decode cL_law 1128 = .ok (.iconst 0, 1) := by decide +kernel
theorem dL_law_1129 : decode cL_law 1129 = .ok (.ireturn, 1) := by decide +kernel
theorem dL_law_1130 : decode cL_law 1130 = .ok (.aload_n 1, 1) := by decide +kernel
theorem dL_law_1131 : decode cL_law 1131 = .ok (.aload_n 0, 1) := by decide +kernel
theorem dL_law_1132 : decode cL_law 1132 = .ok (.iload_n 3, 1) := by decide +kernel
theorem dL_law_1133 : decode cL_law 1133 = .ok (.iconst 1, 1) := by decide +kernel
theorem dL_law_1134 : decode cL_law 1134 = .ok (.iadd, 1) := by decide +kernel
theorem dL_law_1135 : decode cL_law 1135 = .ok (.iaload, 1) := by decide +kernel
theorem dL_law_1136 : decode cL_law 1136 = .ok (.aload_n 0, 1) := by decide +kernel
theorem dL_law_1137 : decode cL_law 1137 = .ok (.iload_n 3, 1) := by decide +kernel
theorem dL_law_1138 : decode cL_law 1138 = .ok (.iconst 2, 1) := by decide +kernel
theorem dL_law_1139 : decode cL_law 1139 = .ok (.iadd, 1) := by decide +kernel
theorem dL_law_1140 : decode cL_law 1140 = .ok (.iaload, 1) := by decide +kernel
theorem dL_law_1141 : decode cL_law 1141 = .ok (.aload_n 0, 1) := by decide +kernel
theorem dL_law_1142 : decode cL_law 1142 = .ok (.iload_n 3, 1) := by decide +kernel
theorem dL_law_1143 : decode cL_law 1143 = .ok (.iconst 3, 1) := by decide +kernel
theorem dL_law_1144 : decode cL_law 1144 = .ok (.iadd, 1) := by decide +kernel
theorem dL_law_1145 : decode cL_law 1145 = .ok (.iaload, 1) := by decide +kernel
theorem dL_law_1146 : decode cL_law 1146 = .ok (.aload_n 0, 1) := by decide +kernel
theorem dL_law_1147 : decode cL_law 1147 = .ok (.iload_n 3, 1) := by decide +kernel
theorem dL_law_1148 : decode cL_law 1148 = .ok (.iconst 4, 1) := by decide +kernel
theorem dL_law_1149 : decode cL_law 1149 = .ok (.iadd, 1) := by decide +kernel
theorem dL_law_1150 : decode cL_law 1150 = .ok (.iaload, 1) := by decide +kernel
theorem dL_law_1151 : decode cL_law 1151 = .ok (.invokevirtual 131, 3) := by decide +kernel
theorem dL_law_1154 : decode cL_law 1154 = .ok (.aload_n 2, 1) := by decide +kernel
theorem dL_law_1155 : decode cL_law 1155 = .ok (.aload_n 0, 1) := by decide +kernel
theorem dL_law_1156 : decode cL_law 1156 = .ok (.iload_n 3, 1) := by decide +kernel
theorem dL_law_1157 : decode cL_law 1157 = .ok (.iconst 1, 1) := by decide +kernel
theorem dL_law_1158 : decode cL_law 1158 = .ok (.iadd, 1) := by decide +kernel
theorem dL_law_1159 : decode cL_law 1159 = .ok (.iaload, 1) := by decide +kernel
theorem dL_law_1160 : decode cL_law 1160 = .ok (.aload_n 0, 1) := by decide +kernel
theorem dL_law_1161 : decode cL_law 1161 = .ok (.iload_n 3, 1) := by decide +kernel
theorem dL_law_1162 : decode cL_law 1162 = .ok (.iconst 2, 1) := by decide +kernel
theorem dL_law_1163 : decode cL_law 1163 = .ok (.iadd, 1) := by decide +kernel
theorem dL_law_1164 : decode cL_law 1164 = .ok (.iaload, 1) := by decide +kernel
theorem dL_law_1165 : decode cL_law 1165 = .ok (.aload_n 0, 1) := by decide +kernel
theorem dL_law_1166 : decode cL_law 1166 = .ok (.iload_n 3, 1) := by decide +kernel
theorem dL_law_1167 : decode cL_law 1167 = .ok (.iconst 3, 1) := by decide +kernel
theorem dL_law_1168 : decode cL_law 1168 = .ok (.iadd, 1) := by decide +kernel
theorem dL_law_1169 : decode cL_law 1169 = .ok (.iaload, 1) := by decide +kernel
theorem dL_law_1170 : decode cL_law 1170 = .ok (.aload_n 0, 1) := by decide +kernel
theorem dL_law_1171 : decode cL_law 1171 = .ok (.iload_n 3, 1) := by decide +kernel
theorem dL_law_1172 : decode cL_law 1172 = .ok (.iconst 4, 1) := by decide +kernel
theorem dL_law_1173 : decode cL_law 1173 = .ok (.iadd, 1) := by decide +kernel
theorem dL_law_1174 : decode cL_law 1174 = .ok (.iaload, 1) := by decide +kernel
theorem dL_law_1175 : decode cL_law 1175 = .ok (.invokevirtual 135, 3) := by decide +kernel
theorem dL_law_1178 : decode cL_law 1178 = .ok (.if_icmp .eq 252, 3) := by decide +kernel
theorem dL_law_1181 : decode cL_law 1181 = .ok (.iconst 0, 1) := by decide +kernel
theorem dL_law_1182 : decode cL_law 1182 = .ok (.ireturn, 1) := by decide +kernel
theorem dL_law_1183 : decode cL_law 1183 = .ok (.aload_n 1, 1) := by decide +kernel
theorem dL_law_1184 : decode cL_law 1184 = .ok (.aload_n 0, 1) := by decide +kernel
theorem dL_law_1185 : decode cL_law 1185 = .ok (.iload_n 3, 1) := by decide +kernel
theorem dL_law_1186 : decode cL_law 1186 = .ok (.iconst 1, 1) := by decide +kernel
theorem dL_law_1187 : decode cL_law 1187 = .ok (.iadd, 1) := by decide +kernel
theorem dL_law_1188 : decode cL_law 1188 = .ok (.iaload, 1) := by decide +kernel
theorem dL_law_1189 : decode cL_law 1189 = .ok (.aload_n 0, 1) := by decide +kernel
theorem dL_law_1190 : decode cL_law 1190 = .ok (.iload_n 3, 1) := by decide +kernel
theorem dL_law_1191 : decode cL_law 1191 = .ok (.iconst 2, 1) := by decide +kernel
theorem dL_law_1192 : decode cL_law 1192 = .ok (.iadd, 1) := by decide +kernel
theorem dL_law_1193 : decode cL_law 1193 = .ok (.iaload, 1) := by decide +kernel
theorem dL_law_1194 : decode cL_law 1194 = .ok (.aload_n 0, 1) := by decide +kernel
theorem dL_law_1195 : decode cL_law 1195 = .ok (.iload_n 3, 1) := by decide +kernel
theorem dL_law_1196 : decode cL_law 1196 = .ok (.iconst 3, 1) := by decide +kernel
theorem dL_law_1197 : decode cL_law 1197 = .ok (.iadd, 1) := by decide +kernel
theorem dL_law_1198 : decode cL_law 1198 = .ok (.iaload, 1) := by decide +kernel
theorem dL_law_1199 : decode cL_law 1199 = .ok (.invokevirtual 136, 3) := by decide +kernel
theorem dL_law_1202 : decode cL_law 1202 = .ok (.aload_n 2, 1) := by decide +kernel
theorem dL_law_1203 : decode cL_law 1203 = .ok (.aload_n 0, 1) := by decide +kernel
theorem dL_law_1204 : decode cL_law 1204 = .ok (.iload_n 3, 1) := by decide +kernel
theorem dL_law_1205 : decode cL_law 1205 = .ok (.iconst 1, 1) := by decide +kernel
theorem dL_law_1206 : decode cL_law 1206 = .ok (.iadd, 1) := by decide +kernel
theorem dL_law_1207 : decode cL_law 1207 = .ok (.iaload, 1) := by decide +kernel
theorem dL_law_1208 : decode cL_law 1208 = .ok (.aload_n 0, 1) := by decide +kernel
theorem dL_law_1209 : decode cL_law 1209 = .ok (.iload_n 3, 1) := by decide +kernel
theorem dL_law_1210 : decode cL_law 1210 = .ok (.iconst 2, 1) := by decide +kernel
theorem dL_law_1211 : decode cL_law 1211 = .ok (.iadd, 1) := by decide +kernel
theorem dL_law_1212 : decode cL_law 1212 = .ok (.iaload, 1) := by decide +kernel
theorem dL_law_1213 : decode cL_law 1213 = .ok (.aload_n 0, 1) := by decide +kernel
theorem dL_law_1214 : decode cL_law 1214 = .ok (.iload_n 3, 1) := by decide +kernel
theorem dL_law_1215 : decode cL_law 1215 = .ok (.iconst 3, 1) := by decide +kernel
theorem dL_law_1216 : decode cL_law 1216 = .ok (.iadd, 1) := by decide +kernel
theorem dL_law_1217 : decode cL_law 1217 = .ok (.iaload, 1) := by decide +kernel
theorem dL_law_1218 : decode cL_law 1218 = .ok (.invokevirtual 139, 3) := by decide +kernel
theorem dL_law_1221 : decode cL_law 1221 = .ok (.if_icmp .eq 209, 3) := by decide +kernel
theorem dL_law_1224 : decode cL_law 1224 = .ok (.iconst 0, 1) := by decide +kernel
theorem dL_law_1225 : decode cL_law 1225 = .ok (.ireturn, 1) := by decide +kernel
theorem dL_law_1226 : decode cL_law 1226 = .ok (.aload_n 1, 1) := by decide +kernel
theorem dL_law_1227 : decode cL_law 1227 = .ok (.aload_n 0, 1) := by decide +kernel
theorem dL_law_1228 : decode cL_law 1228 = .ok (.iload_n 3, 1) := by decide +kernel
theorem dL_law_1229 : decode cL_law 1229 = .ok (.iconst 1, 1) := by decide +kernel
theorem dL_law_1230 : decode cL_law 1230 = .ok (.iadd, 1) := by decide +kernel
theorem dL_law_1231 : decode cL_law 1231 = .ok (.iaload, 1) := by decide +kernel
theorem dL_law_1232 : decode cL_law 1232 = .ok (.invokevirtual 140, 3) := by decide +kernel
theorem dL_law_1235 : decode cL_law 1235 = .ok (.aload_n 2, 1) := by decide +kernel
theorem dL_law_1236 : decode cL_law 1236 = .ok (.aload_n 0, 1) := by decide +kernel
theorem dL_law_1237 : decode cL_law 1237 = .ok (.iload_n 3, 1) := by decide +kernel
theorem dL_law_1238 : decode cL_law 1238 = .ok (.iconst 1, 1) := by decide +kernel
theorem dL_law_1239 : decode cL_law 1239 = .ok (.iadd, 1) := by decide +kernel
theorem dL_law_1240 : decode cL_law 1240 = .ok (.iaload, 1) := by decide +kernel
theorem dL_law_1241 : decode cL_law 1241 = .ok (.invokevirtual 143, 3) := by decide +kernel
theorem dL_law_1244 : decode cL_law 1244 = .ok (.if_icmp .eq 186, 3) := by decide +kernel
theorem dL_law_1247 : decode cL_law 1247 = .ok (.iconst 0, 1) := by decide +kernel
theorem dL_law_1248 : decode cL_law 1248 = .ok (.ireturn, 1) := by decide +kernel
theorem dL_law_1249 : decode cL_law 1249 = .ok (.aload_n 1, 1) := by decide +kernel
theorem dL_law_1250 : decode cL_law 1250 = .ok (.aload_n 0, 1) := by decide +kernel
theorem dL_law_1251 : decode cL_law 1251 = .ok (.iload_n 3, 1) := by decide +kernel
theorem dL_law_1252 : decode cL_law 1252 = .ok (.iconst 1, 1) := by decide +kernel
theorem dL_law_1253 : decode cL_law 1253 = .ok (.iadd, 1) := by decide +kernel
theorem dL_law_1254 : decode cL_law 1254 = .ok (.iaload, 1) := by decide +kernel
theorem dL_law_1255 : decode cL_law 1255 = .ok (.aload_n 0, 1) := by decide +kernel
theorem dL_law_1256 : decode cL_law 1256 = .ok (.iload_n 3, 1) := by decide +kernel
theorem dL_law_1257 : decode cL_law 1257 = .ok (.iconst 2, 1) := by decide +kernel
theorem dL_law_1258 : decode cL_law 1258 = .ok (.iadd, 1) := by decide +kernel
theorem dL_law_1259 : decode cL_law 1259 = .ok (.iaload, 1) := by decide +kernel
theorem dL_law_1260 : decode cL_law 1260 = .ok (.aload_n 0, 1) := by decide +kernel
theorem dL_law_1261 : decode cL_law 1261 = .ok (.iload_n 3, 1) := by decide +kernel
theorem dL_law_1262 : decode cL_law 1262 = .ok (.iconst 3, 1) := by decide +kernel
theorem dL_law_1263 : decode cL_law 1263 = .ok (.iadd, 1) := by decide +kernel
theorem dL_law_1264 : decode cL_law 1264 = .ok (.iaload, 1) := by decide +kernel
theorem dL_law_1265 : decode cL_law 1265 = .ok (.invokevirtual 144, 3) := by decide +kernel
theorem dL_law_1268 : decode cL_law 1268 = .ok (.aload_n 2, 1) := by decide +kernel
theorem dL_law_1269 : decode cL_law 1269 = .ok (.aload_n 0, 1) := by decide +kernel
theorem dL_law_1270 : decode cL_law 1270 = .ok (.iload_n 3, 1) := by decide +kernel
theorem dL_law_1271 : decode cL_law 1271 = .ok (.iconst 1, 1) := by decide +kernel
theorem dL_law_1272 : decode cL_law 1272 = .ok (.iadd, 1) := by decide +kernel
theorem dL_law_1273 : decode cL_law 1273 = .ok (.iaload, 1) := by decide +kernel
theorem dL_law_1274 : decode cL_law 1274 = .ok (.aload_n 0, 1) := by decide +kernel
theorem dL_law_1275 : decode cL_law 1275 = .ok (.iload_n 3, 1) := by decide +kernel
theorem dL_law_1276 : decode cL_law 1276 = .ok (.iconst 2, 1) := by decide +kernel
theorem dL_law_1277 : decode cL_law 1277 = .ok (.iadd, 1) := by decide +kernel
theorem dL_law_1278 : decode cL_law 1278 = .ok (.iaload, 1) := by decide +kernel
theorem dL_law_1279 : decode cL_law 1279 = .ok (.aload_n 0, 1) := by decide +kernel
theorem dL_law_1280 : decode cL_law 1280 = .ok (.iload_n 3, 1) := by decide +kernel
theorem dL_law_1281 : decode cL_law 1281 = .ok (.iconst 3, 1) := by decide +kernel
theorem dL_law_1282 : decode cL_law 1282 = .ok (.iadd, 1) := by decide +kernel
theorem dL_law_1283 : decode cL_law 1283 = .ok (.iaload, 1) := by decide +kernel
theorem dL_law_1284 : decode cL_law 1284 = .ok (.invokevirtual 147, 3) := by decide +kernel
theorem dL_law_1287 : decode cL_law 1287 = .ok (.if_icmp .eq 143, 3) := by decide +kernel
theorem dL_law_1290 : decode cL_law 1290 = .ok (.iconst 0, 1) := by decide +kernel
theorem dL_law_1291 : decode cL_law 1291 = .ok (.ireturn, 1) := by decide +kernel
theorem dL_law_1292 : decode cL_law 1292 = .ok (.aload_n 1, 1) := by decide +kernel
theorem dL_law_1293 : decode cL_law 1293 = .ok (.aload_n 0, 1) := by decide +kernel
theorem dL_law_1294 : decode cL_law 1294 = .ok (.iload_n 3, 1) := by decide +kernel
theorem dL_law_1295 : decode cL_law 1295 = .ok (.iconst 1, 1) := by decide +kernel
theorem dL_law_1296 : decode cL_law 1296 = .ok (.iadd, 1) := by decide +kernel
theorem dL_law_1297 : decode cL_law 1297 = .ok (.iaload, 1) := by decide +kernel
theorem dL_law_1298 : decode cL_law 1298 = .ok (.aload_n 0, 1) := by decide +kernel
theorem dL_law_1299 : decode cL_law 1299 = .ok (.iload_n 3, 1) := by decide +kernel
theorem dL_law_1300 : decode cL_law 1300 = .ok (.iconst 2, 1) := by decide +kernel
theorem dL_law_1301 : decode cL_law 1301 = .ok (.iadd, 1) := by decide +kernel
theorem dL_law_1302 : decode cL_law 1302 = .ok (.iaload, 1) := by decide +kernel
theorem dL_law_1303 : decode cL_law 1303 = .ok (.invokevirtual 148, 3) := by decide +kernel
theorem dL_law_1306 : decode cL_law 1306 = .ok (.aload_n 2, 1) := by decide +kernel
theorem dL_law_1307 : decode cL_law 1307 = .ok (.aload_n 0, 1) := by decide +kernel
theorem dL_law_1308 : decode cL_law 1308 = .ok (.iload_n 3, 1) := by decide +kernel
theorem dL_law_1309 : decode cL_law 1309 = .ok (.iconst 1, 1) := by decide +kernel
theorem dL_law_1310 : decode cL_law 1310 = .ok (.iadd, 1) := by decide +kernel
theorem dL_law_1311 : decode cL_law 1311 = .ok (.iaload, 1) := by decide +kernel
theorem dL_law_1312 : decode cL_law 1312 = .ok (.aload_n 0, 1) := by decide +kernel
theorem dL_law_1313 : decode cL_law 1313 = .ok (.iload_n 3, 1) := by decide +kernel
theorem dL_law_1314 : decode cL_law 1314 = .ok (.iconst 2, 1) := by decide +kernel
theorem dL_law_1315 : decode cL_law 1315 = .ok (.iadd, 1) := by decide +kernel
theorem dL_law_1316 : decode cL_law 1316 = .ok (.iaload, 1) := by decide +kernel
theorem dL_law_1317 : decode cL_law 1317 = .ok (.invokevirtual 151, 3) := by decide +kernel
theorem dL_law_1320 : decode cL_law 1320 = .ok (.if_icmp .eq 110, 3) := by decide +kernel
theorem dL_law_1323 : decode cL_law 1323 = .ok (.iconst 0, 1) := by decide +kernel
theorem dL_law_1324 : decode cL_law 1324 = .ok (.ireturn, 1) := by decide +kernel
theorem dL_law_1325 : decode cL_law 1325 = .ok (.aload_n 1, 1) := by decide +kernel
theorem dL_law_1326 : decode cL_law 1326 = .ok (.aload_n 0, 1) := by decide +kernel
theorem dL_law_1327 : decode cL_law 1327 = .ok (.iload_n 3, 1) := by decide +kernel
theorem dL_law_1328 : decode cL_law 1328 = .ok (.iconst 1, 1) := by decide +kernel
theorem dL_law_1329 : decode cL_law 1329 = .ok (.iadd, 1) := by decide +kernel
theorem dL_law_1330 : decode cL_law 1330 = .ok (.iaload, 1) := by decide +kernel
theorem dL_law_1331 : decode cL_law 1331 = .ok (.aload_n 0, 1) := by decide +kernel
theorem dL_law_1332 : decode cL_law 1332 = .ok (.iload_n 3, 1) := by decide +kernel
theorem dL_law_1333 : decode cL_law 1333 = .ok (.iconst 2, 1) := by decide +kernel
theorem dL_law_1334 : decode cL_law 1334 = .ok (.iadd, 1) := by decide +kernel
theorem dL_law_1335 : decode cL_law 1335 = .ok (.iaload, 1) := by decide +kernel
theorem dL_law_1336 : decode cL_law 1336 = .ok (.invokevirtual 152, 3) := by decide +kernel
theorem dL_law_1339 : decode cL_law 1339 = .ok (.aload_n 2, 1) := by decide +kernel
theorem dL_law_1340 : decode cL_law 1340 = .ok (.aload_n 0, 1) := by decide +kernel
theorem dL_law_1341 : decode cL_law 1341 = .ok (.iload_n 3, 1) := by decide +kernel
theorem dL_law_1342 : decode cL_law 1342 = .ok (.iconst 1, 1) := by decide +kernel
theorem dL_law_1343 : decode cL_law 1343 = .ok (.iadd, 1) := by decide +kernel
theorem dL_law_1344 : decode cL_law 1344 = .ok (.iaload, 1) := by decide +kernel
theorem dL_law_1345 : decode cL_law 1345 = .ok (.aload_n 0, 1) := by decide +kernel
theorem dL_law_1346 : decode cL_law 1346 = .ok (.iload_n 3, 1) := by decide +kernel
theorem dL_law_1347 : decode cL_law 1347 = .ok (.iconst 2, 1) := by decide +kernel
theorem dL_law_1348 : decode cL_law 1348 = .ok (.iadd, 1) := by decide +kernel
theorem dL_law_1349 : decode cL_law 1349 = .ok (.iaload, 1) := by decide +kernel
theorem dL_law_1350 : decode cL_law 1350 = .ok (.invokevirtual 155, 3) := by decide +kernel
theorem dL_law_1353 : decode cL_law 1353 = .ok (.if_icmp .eq 77, 3) := by decide +kernel
theorem dL_law_1356 : decode cL_law 1356 = .ok (.iconst 0, 1) := by decide +kernel
theorem dL_law_1357 : decode cL_law 1357 = .ok (.ireturn, 1) := by decide +kernel
theorem dL_law_1358 : decode cL_law 1358 = .ok (.aload_n 1, 1) := by decide +kernel
theorem dL_law_1359 : decode cL_law 1359 = .ok (.aload_n 0, 1) := by decide +kernel
theorem dL_law_1360 : decode cL_law 1360 = .ok (.iload_n 3, 1) := by decide +kernel
theorem dL_law_1361 : decode cL_law 1361 = .ok (.iconst 1, 1) := by decide +kernel
theorem dL_law_1362 : decode cL_law 1362 = .ok (.iadd, 1) := by decide +kernel
theorem dL_law_1363 : decode cL_law 1363 = .ok (.iaload, 1) := by decide +kernel
theorem dL_law_1364 : decode cL_law 1364 = .ok (.invokevirtual 156, 3) := by decide +kernel
theorem dL_law_1367 : decode cL_law 1367 = .ok (.aload_n 2, 1) := by decide +kernel
theorem dL_law_1368 : decode cL_law 1368 = .ok (.aload_n 0, 1) := by decide +kernel
theorem dL_law_1369 : decode cL_law 1369 = .ok (.iload_n 3, 1) := by decide +kernel
theorem dL_law_1370 : decode cL_law 1370 = .ok (.iconst 1, 1) := by decide +kernel
theorem dL_law_1371 : decode cL_law 1371 = .ok (.iadd, 1) := by decide +kernel
theorem dL_law_1372 : decode cL_law 1372 = .ok (.iaload, 1) := by decide +kernel
theorem dL_law_1373 : decode cL_law 1373 = .ok (.invokevirtual 159, 3) := by decide +kernel
theorem dL_law_1376 : decode cL_law 1376 = .ok (.if_icmp .eq 54, 3) := by decide +kernel
theorem dL_law_1379 : decode cL_law 1379 = .ok (.iconst 0, 1) := by decide +kernel
theorem dL_law_1380 : decode cL_law 1380 = .ok (.ireturn, 1) := by decide +kernel
theorem dL_law_1381 : decode cL_law 1381 = .ok (.aload_n 1, 1) := by decide +kernel
theorem dL_law_1382 : decode cL_law 1382 = .ok (.invokevirtual 160, 3) := by decide +kernel
theorem dL_law_1385 : decode cL_law 1385 = .ok (.aload_n 2, 1) := by decide +kernel
theorem dL_law_1386 : decode cL_law 1386 = .ok (.invokevirtual 163, 3) := by decide +kernel
theorem dL_law_1389 : decode cL_law 1389 = .ok (.if_icmp .eq 41, 3) := by decide +kernel
theorem dL_law_1392 : decode cL_law 1392 = .ok (.iconst 0, 1) := by decide +kernel
theorem dL_law_1393 : decode cL_law 1393 = .ok (.ireturn, 1) := by decide +kernel
theorem dL_law_1394 : decode cL_law 1394 = .ok (.aload_n 1, 1) := by decide +kernel
theorem dL_law_1395 : decode cL_law 1395 = .ok (.invokevirtual 164, 3) := by decide +kernel
theorem dL_law_1398 : decode cL_law 1398 = .ok (.aload_n 2, 1) := by decide +kernel
theorem dL_law_1399 : decode cL_law 1399 = .ok (.invokevirtual 167, 3) := by decide +kernel
theorem dL_law_1402 : decode cL_law 1402 = .ok (.if_icmp .eq 28, 3) := by decide +kernel
theorem dL_law_1405 : decode cL_law 1405 = .ok (.iconst 0, 1) := by decide +kernel
theorem dL_law_1406 : decode cL_law 1406 = .ok (.ireturn, 1) := by decide +kernel
theorem dL_law_1407 : decode cL_law 1407 = .ok (.aload_n 1, 1) := by decide +kernel
theorem dL_law_1408 : decode cL_law 1408 = .ok (.aload_n 0, 1) := by decide +kernel
theorem dL_law_1409 : decode cL_law 1409 = .ok (.iload_n 3, 1) := by decide +kernel
theorem dL_law_1410 : decode cL_law 1410 = .ok (.iconst 1, 1) := by decide +kernel
theorem dL_law_1411 : decode cL_law 1411 = .ok (.iadd, 1) := by decide +kernel
theorem dL_law_1412 : decode cL_law 1412 = .ok (.iaload, 1) := by decide +kernel
theorem dL_law_1413 : decode cL_law 1413 = .ok (.invokevirtual 168, 3) := by decide +kernel
theorem dL_law_1416 : decode cL_law 1416 = .ok (.aload_n 2, 1) := by decide +kernel
theorem dL_law_1417 : decode cL_law 1417 = .ok (.aload_n 0, 1) := by decide +kernel
theorem dL_law_1418 : decode cL_law 1418 = .ok (.iload_n 3, 1) := by decide +kernel
theorem dL_law_1419 : decode cL_law 1419 = .ok (.iconst 1, 1) := by decide +kernel
theorem dL_law_1420 : decode cL_law 1420 = .ok (.iadd, 1) := by decide +kernel
theorem dL_law_1421 : decode cL_law 1421 = .ok (.iaload, 1) := by decide +kernel
theorem dL_law_1422 : decode cL_law 1422 = .ok (.invokevirtual 171, 3) := by decide +kernel
theorem dL_law_1425 : decode cL_law 1425 = .ok (.if_icmp .eq 5, 3) := by decide +kernel
theorem dL_law_1428 : decode cL_law 1428 = .ok (.iconst 0, 1) := by decide +kernel
theorem dL_law_1429 : decode cL_law 1429 = .ok (.ireturn, 1) := by decide +kernel
theorem dL_law_1430 : decode cL_law 1430 = .ok (.iinc 3 7, 3) := by decide +kernel
theorem dL_law_1433 : decode cL_law 1433 = .ok (.goto (-1415), 3) := by decide +kernel
theorem dL_law_1436 : decode cL_law 1436 = .ok (.iconst 1, 1) := by decide +kernel
theorem dL_law_1437 : decode cL_law 1437 = .ok (.ireturn, 1) := by decide +kernel
def R_law : String := "NineDebtsLaw"
def lw_P (b : Addr) (xs : List Int32) (args : Array Value) (s : State) : Prop := args = #[.ref b] ∧ s.IntsAt b xs ∧ xs.length ≤ 3584 ∧ (Jvm.Cond.and given_1 narrow_1).before args s = true
def lw_Q (_ : Array Value) (s : State) (o : Outcome) (t : State) : Prop := o = .returned (some (.int 1)) ∧ Framed s o t [] 600000 7302249
def lw_Z (below : List Frame) (a : Array Value) (s : State) : State → Prop := fun t => ∃ o, t.status = .running ∧ Ended t below o ∧ lw_Q a s o t
/-- the law's own end, with 1 on the stack, nothing written that was there before, its room as the claim has it -/
theorem lw_ret {p : Program} {l : Launch} {e : Env} {s : State} {m : MethodId} {below : List Frame} {meth : Method} {c : Code} {b : Nat} (hx : p.tables.exec = Jvm.exec) (hb : c.code = code) (hr : meth.sig.returnType = ret) (hlocks : meth.locks = false) {pc : Nat} {H : Heap} {ls : Array Slot} (hdg : decode code pc = .ok (.ireturn, 1)) : W p l e room_1 s m #[Value.ref b] below meth c H [] 600000 7302249 (lw_Z below #[Value.ref b] s) (F0 m pc ls [.int 1]) := by
  intro T hT X
  obtain ⟨fs, hret, hrun, hended, hW, hframe⟩ := X.leave (v := some (.int 1)) (hlocks := hlocks) (fun h => by rw [hr] at h; cases h)
  have hmeth' : T.vm.method? m = some meth := X.method'
  refine ⟨T.setFrames fs, ?_, .returned (some (.int 1)), hrun, hended, rfl, ⟨_, rfl⟩, hW, hframe⟩
  jvm_step X.here [X.here.top, hx, hb, hdg, hmeth', hr, ret, narrow_b1]
  (try refine ⟨rfl, ?_⟩); (try refine ⟨rfl, ?_⟩)
  first | (intro acts; rw [hret _ acts rfl rfl rfl]) | rw [hret _ _ rfl rfl rfl]
  exact Steps.refl _
/-- what holds at the law's entry: the machine, the code, the tables' words (any of lw_tbl by 'hts w (by decide +kernel)'), the script of L ints xs at the cell b, what the Statement gives of the start (any of its parts by flat_of_before) -/
def lw_At (p : Program) (s : State) (m : MethodId) (meth : Method) (c : Code) (b L : Nat) (xs : Nat → Int32) : Prop :=
  p.tables.exec = Jvm.exec ∧ c.code = code ∧ meth.sig.returnType = ret ∧ c.maxLocals = 4 ∧ s.vm.findClass R_law = some m.cls ∧ (∀ w ∈ lw_tbl, w.before #[Value.ref b] s = true) ∧ va_X b L xs s s.heap ∧ b < s.heap.size ∧ meth.locks = false ∧ (Jvm.Cond.and given_1 narrow_1).before #[Value.ref b] s = true
def CxL (E : gE) (p : Program) (s : State) (m : MethodId) (meth : Method) (c : Code) (σ0 : Sto) (lim : Nat × Nat) (b L : Nat) (xs : Nat → Int32) : Prop := p.tables.exec = Jvm.exec ∧ c.code = cL_law ∧ c.maxLocals = 4 ∧ meth.sig.returnType = ret ∧ s.vm.findClass RL = some m.cls ∧ (∀ w ∈ lwG, w.before #[Value.ref b] s = true) ∧ meth.locks = false ∧ gOk E σ0 s ∧ va_X (gA E 0) L xs s s.heap ∧ gA E 0 < s.heap.size ∧ ¬ gW E (gA E 0) ∧ E.2.1 = s.heap.size ∧ (lim.1 = sN σ0 + 600000 ∧ lim.2 = sZ σ0 + 7302249)
set_option maxRecDepth 100000 in
set_option maxHeartbeats 4000000 in
theorem bL_law_18 {p : Program} {l : Launch} {e : Env} {s : State} {m : MethodId} {below : List Frame} {meth : Method} {c : Code} {b : Nat} (E : gE) (σ0 : Sto) (lim : Nat × Nat) (L : Nat) (xs : Nat → Int32) (a1 : Nat) (a2 : Nat) (C : CxL E p s m meth c σ0 lim b L xs) : ∀ (n : Nat) (i3 : Int32) (σ : Sto), pL_law_b18 lim L xs a1 a2 n i3 σ → (sN σ0 ≤ sN σ ∧ sZ σ0 ≤ sZ σ) → ∀ (H : Heap) (locs : List Loc) (ls : Array Slot), gH E σ s H locs → lv_has ls 4 [(0, .ref (gA E 0)), (1, .ref (gA E a1)), (2, .ref (gA E a2)), (3, .int i3)] → W p l e room_1 s m #[Value.ref b] below meth c H locs (sN σ - sN σ0) (sZ σ - sZ σ0) (lw_Z below #[Value.ref b] s) (F0 m 18 ls []) := by
  obtain ⟨hx, hb, hml, hr, hown, ht, hlocks, hO, hX, hbl, hbA, hB, hlim⟩ := id C
  obtain ⟨hlim1, hlim2⟩ := hlim
  intro n
  induction n with
  | zero =>
    intro i3 σ hq
    exact hq.elim
  | succ n ih =>
    intro i3 σ hq hm H locs ls hG hl
    rw [pL_law_b18] at hq
    refine lv_iload_n hx hb dL_law_18 rfl (lv_at hl 3 rfl) ?_
    refine lv_aload_n hx hb dL_law_19 rfl (lv_at hl 0 rfl) ?_
    refine va_slen hx hb hX hbl hbA hG.2 dL_law_20 ?_
    refine lv_bipush (v := (7 : Int32)) hx hb dL_law_21 (by decide) ?_
    refine lv_isub hx hb dL_law_23 ?_
    refine lv_icmp_gt (tgt := 1436) hx hb dL_law_24 (by decide) (fun hc1 => ?_) (fun hc1 => ?_)
    · have hq := hq.1 hc1
      refine lv_iconst (v := (1 : Int32)) hx hb dL_law_1436 (by decide) ?_
      obtain ⟨hz1, hz2, hq⟩ := hq
      refine va_forget (fun q h9 => by have h8 := hG.2.2.2 q h9; rw [← hB]; exact h8) ?_
      refine W.widen (k := 600000) (n := 7302249) (by omega) (by omega) ?_
      exact lw_ret hx hb hr hlocks dL_law_1437
    · have hq := hq.2 hc1
      refine lv_aload_n hx hb dL_law_27 rfl (lv_at hl 0 rfl) ?_
      refine lv_iload_n hx hb dL_law_28 rfl (lv_at hl 3 rfl) ?_
      obtain ⟨hi2, hq⟩ := hq
      refine va_sld hx hb hX hbl hbA hG.2 hi2 dL_law_29 ?_
      refine lv_bipush (v := (63 : Int32)) hx hb dL_law_30 (by decide) ?_
      refine lv_iand hx hb dL_law_32 ?_
      by_cases hs3 : (xs i3.toNatClampNeg &&& (63 : Int32)) = (0 : Int32)
      · have hq := hq.1 hs3
        refine lv_tableIn (off := 163) (tgt := 196) hx hb dL_law_33 (by rw [hs3]; decide) (by rw [hs3]; decide) (by rw [hs3]; rfl) (by decide) ?_
        refine lv_aload_n hx hb dL_law_196 rfl (lv_at hl 1 rfl) ?_
        refine lv_aload_n hx hb dL_law_197 rfl (lv_at hl 0 rfl) ?_
        refine lv_iload_n hx hb dL_law_198 rfl (lv_at hl 3 rfl) ?_
        refine lv_iconst (v := (1 : Int32)) hx hb dL_law_199 (by decide) ?_
        refine lv_iadd hx hb dL_law_200 ?_
        obtain ⟨hi4, hq⟩ := hq
        refine va_sld hx hb hX hbl hbA hG.2 hi4 dL_law_201 ?_
        refine lv_aload_n hx hb dL_law_202 rfl (lv_at hl 0 rfl) ?_
        refine lv_iload_n hx hb dL_law_203 rfl (lv_at hl 3 rfl) ?_
        refine lv_iconst (v := (2 : Int32)) hx hb dL_law_204 (by decide) ?_
        refine lv_iadd hx hb dL_law_205 ?_
        obtain ⟨hi5, hq⟩ := hq
        refine va_sld hx hb hX hbl hbA hG.2 hi5 dL_law_206 ?_
        refine lv_aload_n hx hb dL_law_207 rfl (lv_at hl 0 rfl) ?_
        refine lv_iload_n hx hb dL_law_208 rfl (lv_at hl 3 rfl) ?_
        refine lv_iconst (v := (3 : Int32)) hx hb dL_law_209 (by decide) ?_
        refine lv_iadd hx hb dL_law_210 ?_
        obtain ⟨hi6, hq⟩ := hq
        refine va_sld hx hb hX hbl hbA hG.2 hi6 dL_law_211 ?_
        obtain ⟨ho9, hq⟩ := hq
        obtain ⟨hf10, hf10b, hq⟩ := hq
        refine r_fi (r_V (As := [.int (xs (i3 + (1 : Int32)).toNatClampNeg), .int (xs (i3 + (2 : Int32)).toNatClampNeg), .int (xs (i3 + (3 : Int32)).toNatClampNeg)]) (rest := []) ⟨hx, hb, hml, hown, ht⟩ (kX6_row E l σ a1 (xs (i3 + (1 : Int32)).toNatClampNeg) (xs (i3 + (2 : Int32)).toNatClampNeg) (xs (i3 + (3 : Int32)).toNatClampNeg) _ hq) mVX6_row q_244 rfl rfl ⟨Nat.le_of_ble_eq_true rfl, Nat.le_of_ble_eq_true rfl⟩ hO hG ho9 (cell_6 ho9.2.2) rfl rfl rfl hl.1 rfl (Nat.le_of_ble_eq_true rfl) dL_law_212 ⟨(by show _ ≤ 600000; omega), (by show _ ≤ 7302249; omega)⟩) hG (fun r8 σ7 H locs hq hG => ?_)
        obtain ⟨eNσ7, eZσ7, hq⟩ := hq
        have hm : sN σ0 ≤ sN σ7 ∧ sZ σ0 ≤ sZ σ7 := ⟨by omega, by omega⟩
        refine W.widen (k := sN σ7 - sN σ0) (n := sZ σ7 - sZ σ0) (by omega) (by omega) ?_
        refine lv_aload_n hx hb dL_law_215 rfl (lv_at hl 2 rfl) ?_
        refine lv_aload_n hx hb dL_law_216 rfl (lv_at hl 0 rfl) ?_
        refine lv_iload_n hx hb dL_law_217 rfl (lv_at hl 3 rfl) ?_
        refine lv_iconst (v := (1 : Int32)) hx hb dL_law_218 (by decide) ?_
        refine lv_iadd hx hb dL_law_219 ?_
        obtain ⟨hi11, hq⟩ := hq
        refine va_sld hx hb hX hbl hbA hG.2 hi11 dL_law_220 ?_
        refine lv_aload_n hx hb dL_law_221 rfl (lv_at hl 0 rfl) ?_
        refine lv_iload_n hx hb dL_law_222 rfl (lv_at hl 3 rfl) ?_
        refine lv_iconst (v := (2 : Int32)) hx hb dL_law_223 (by decide) ?_
        refine lv_iadd hx hb dL_law_224 ?_
        obtain ⟨hi12, hq⟩ := hq
        refine va_sld hx hb hX hbl hbA hG.2 hi12 dL_law_225 ?_
        refine lv_aload_n hx hb dL_law_226 rfl (lv_at hl 0 rfl) ?_
        refine lv_iload_n hx hb dL_law_227 rfl (lv_at hl 3 rfl) ?_
        refine lv_iconst (v := (3 : Int32)) hx hb dL_law_228 (by decide) ?_
        refine lv_iadd hx hb dL_law_229 ?_
        obtain ⟨hi13, hq⟩ := hq
        refine va_sld hx hb hX hbl hbA hG.2 hi13 dL_law_230 ?_
        obtain ⟨ho16, hq⟩ := hq
        obtain ⟨hf17, hf17b, hq⟩ := hq
        refine r_fi (r_V (As := [.int (xs (i3 + (1 : Int32)).toNatClampNeg), .int (xs (i3 + (2 : Int32)).toNatClampNeg), .int (xs (i3 + (3 : Int32)).toNatClampNeg)]) (rest := [.int r8]) ⟨hx, hb, hml, hown, ht⟩ (kX7_row E l σ7 a2 (xs (i3 + (1 : Int32)).toNatClampNeg) (xs (i3 + (2 : Int32)).toNatClampNeg) (xs (i3 + (3 : Int32)).toNatClampNeg) _ hq) mVX7_row q_957 rfl rfl ⟨Nat.le_of_ble_eq_true rfl, Nat.le_of_ble_eq_true rfl⟩ hO hG ho16 (cell_7 ho16.2.2) rfl rfl rfl hl.1 rfl (Nat.le_of_ble_eq_true rfl) dL_law_231 ⟨(by show _ ≤ 600000; omega), (by show _ ≤ 7302249; omega)⟩) hG (fun r15 σ14 H locs hq hG => ?_)
        obtain ⟨eNσ14, eZσ14, hq⟩ := hq
        have hm : sN σ0 ≤ sN σ14 ∧ sZ σ0 ≤ sZ σ14 := ⟨by omega, by omega⟩
        refine W.widen (k := sN σ14 - sN σ0) (n := sZ σ14 - sZ σ0) (by omega) (by omega) ?_
        refine lv_icmp_eq (tgt := 1430) hx hb dL_law_234 (by decide) (fun hc18 => ?_) (fun hc18 => ?_)
        · have hq := hq.1 hc18
          obtain ⟨y19, ey19⟩ : ∃ y : Int32, y = i3 + (7 : Int32) := ⟨_, rfl⟩
          have hq := hq y19 ey19
          refine lv_iinc (v := y19) (lv' := [(3, .int y19), (0, .ref (gA E 0)), (1, .ref (gA E a1)), (2, .ref (gA E a2))]) hx hb dL_law_1430 hl (k := 3) rfl (by rw [ey19]; rfl) (by decide) rfl (fun ls hl => ?_)
          refine lv_goto (tgt := 18) hx hb dL_law_1433 (by decide) ?_
          exact ih y19 σ14 hq hm H locs ls hG (lv_sub hl [1, 2, 3, 0] rfl)
        · have hq := hq.2 hc18
          refine lv_iconst (v := (0 : Int32)) hx hb dL_law_237 (by decide) ?_
          obtain ⟨hz1, hz2, hq⟩ := hq
          exact absurd hq (by decide)
      have hq := hq.2 hs3
      by_cases hs20 : (xs i3.toNatClampNeg &&& (63 : Int32)) = (1 : Int32)
      · have hq := hq.1 hs20
        refine lv_tableIn (off := 206) (tgt := 239) hx hb dL_law_33 (by rw [hs20]; decide) (by rw [hs20]; decide) (by rw [hs20]; rfl) (by decide) ?_
        refine lv_aload_n hx hb dL_law_239 rfl (lv_at hl 1 rfl) ?_
        refine lv_aload_n hx hb dL_law_240 rfl (lv_at hl 0 rfl) ?_
        refine lv_iload_n hx hb dL_law_241 rfl (lv_at hl 3 rfl) ?_
        refine lv_iconst (v := (1 : Int32)) hx hb dL_law_242 (by decide) ?_
        refine lv_iadd hx hb dL_law_243 ?_
        obtain ⟨hi21, hq⟩ := hq
        refine va_sld hx hb hX hbl hbA hG.2 hi21 dL_law_244 ?_
        refine lv_aload_n hx hb dL_law_245 rfl (lv_at hl 0 rfl) ?_
        refine lv_iload_n hx hb dL_law_246 rfl (lv_at hl 3 rfl) ?_
        refine lv_iconst (v := (2 : Int32)) hx hb dL_law_247 (by decide) ?_
        refine lv_iadd hx hb dL_law_248 ?_
        obtain ⟨hi22, hq⟩ := hq
        refine va_sld hx hb hX hbl hbA hG.2 hi22 dL_law_249 ?_
        refine lv_aload_n hx hb dL_law_250 rfl (lv_at hl 0 rfl) ?_
        refine lv_iload_n hx hb dL_law_251 rfl (lv_at hl 3 rfl) ?_
        refine lv_iconst (v := (3 : Int32)) hx hb dL_law_252 (by decide) ?_
        refine lv_iadd hx hb dL_law_253 ?_
        obtain ⟨hi23, hq⟩ := hq
        refine va_sld hx hb hX hbl hbA hG.2 hi23 dL_law_254 ?_
        refine lv_i2l hx hb dL_law_255 rfl ?_
        refine lv_bipush (v := (32 : Int32)) hx hb dL_law_256 (by decide) ?_
        refine lv_lshl hx hb dL_law_258 rfl ?_
        refine lv_aload_n hx hb dL_law_259 rfl (lv_at hl 0 rfl) ?_
        refine lv_iload_n hx hb dL_law_260 rfl (lv_at hl 3 rfl) ?_
        refine lv_iconst (v := (4 : Int32)) hx hb dL_law_261 (by decide) ?_
        refine lv_iadd hx hb dL_law_262 ?_
        obtain ⟨hi24, hq⟩ := hq
        refine va_sld hx hb hX hbl hbA hG.2 hi24 dL_law_263 ?_
        refine lv_i2l hx hb dL_law_264 rfl ?_
        refine lv_ldc2 hx hb hown (ht _ q_1300) dL_law_265 ?_
        refine lv_land hx hb dL_law_268 ?_
        refine lv_lor hx hb dL_law_269 ?_
        obtain ⟨ho27, hq⟩ := hq
        obtain ⟨hf28, hf28b, hq⟩ := hq
        refine r_fi (r_V (As := [.int (xs (i3 + (1 : Int32)).toNatClampNeg), .int (xs (i3 + (2 : Int32)).toNatClampNeg), .long (((xs (i3 + (3 : Int32)).toNatClampNeg).toInt64 <<< ((32 : Int32).toInt64 &&& 63)) ||| ((xs (i3 + (4 : Int32)).toNatClampNeg).toInt64 &&& (4294967295 : Int64)))]) (rest := []) ⟨hx, hb, hml, hown, ht⟩ (kX6_set E l σ a1 (xs (i3 + (1 : Int32)).toNatClampNeg) (xs (i3 + (2 : Int32)).toNatClampNeg) (((xs (i3 + (3 : Int32)).toNatClampNeg).toInt64 <<< ((32 : Int32).toInt64 &&& 63)) ||| ((xs (i3 + (4 : Int32)).toNatClampNeg).toInt64 &&& (4294967295 : Int64))) _ hq) mVX6_set q_265 rfl rfl ⟨Nat.le_of_ble_eq_true rfl, Nat.le_of_ble_eq_true rfl⟩ hO hG ho27 (cell_6 ho27.2.2) rfl rfl rfl hl.1 rfl (Nat.le_of_ble_eq_true rfl) dL_law_270 ⟨(by show _ ≤ 600000; omega), (by show _ ≤ 7302249; omega)⟩) hG (fun r26 σ25 H locs hq hG => ?_)
        obtain ⟨eNσ25, eZσ25, hq⟩ := hq
        have hm : sN σ0 ≤ sN σ25 ∧ sZ σ0 ≤ sZ σ25 := ⟨by omega, by omega⟩
        refine W.widen (k := sN σ25 - sN σ0) (n := sZ σ25 - sZ σ0) (by omega) (by omega) ?_
        refine lv_aload_n hx hb dL_law_273 rfl (lv_at hl 2 rfl) ?_
        refine lv_aload_n hx hb dL_law_274 rfl (lv_at hl 0 rfl) ?_
        refine lv_iload_n hx hb dL_law_275 rfl (lv_at hl 3 rfl) ?_
        refine lv_iconst (v := (1 : Int32)) hx hb dL_law_276 (by decide) ?_
        refine lv_iadd hx hb dL_law_277 ?_
        obtain ⟨hi29, hq⟩ := hq
        refine va_sld hx hb hX hbl hbA hG.2 hi29 dL_law_278 ?_
        refine lv_aload_n hx hb dL_law_279 rfl (lv_at hl 0 rfl) ?_
        refine lv_iload_n hx hb dL_law_280 rfl (lv_at hl 3 rfl) ?_
        refine lv_iconst (v := (2 : Int32)) hx hb dL_law_281 (by decide) ?_
        refine lv_iadd hx hb dL_law_282 ?_
        obtain ⟨hi30, hq⟩ := hq
        refine va_sld hx hb hX hbl hbA hG.2 hi30 dL_law_283 ?_
        refine lv_aload_n hx hb dL_law_284 rfl (lv_at hl 0 rfl) ?_
        refine lv_iload_n hx hb dL_law_285 rfl (lv_at hl 3 rfl) ?_
        refine lv_iconst (v := (3 : Int32)) hx hb dL_law_286 (by decide) ?_
        refine lv_iadd hx hb dL_law_287 ?_
        obtain ⟨hi31, hq⟩ := hq
        refine va_sld hx hb hX hbl hbA hG.2 hi31 dL_law_288 ?_
        refine lv_i2l hx hb dL_law_289 rfl ?_
        refine lv_bipush (v := (32 : Int32)) hx hb dL_law_290 (by decide) ?_
        refine lv_lshl hx hb dL_law_292 rfl ?_
        refine lv_aload_n hx hb dL_law_293 rfl (lv_at hl 0 rfl) ?_
        refine lv_iload_n hx hb dL_law_294 rfl (lv_at hl 3 rfl) ?_
        refine lv_iconst (v := (4 : Int32)) hx hb dL_law_295 (by decide) ?_
        refine lv_iadd hx hb dL_law_296 ?_
        obtain ⟨hi32, hq⟩ := hq
        refine va_sld hx hb hX hbl hbA hG.2 hi32 dL_law_297 ?_
        refine lv_i2l hx hb dL_law_298 rfl ?_
        refine lv_ldc2 hx hb hown (ht _ q_1300) dL_law_299 ?_
        refine lv_land hx hb dL_law_302 ?_
        refine lv_lor hx hb dL_law_303 ?_
        obtain ⟨ho35, hq⟩ := hq
        obtain ⟨hf36, hf36b, hq⟩ := hq
        refine r_fi (r_V (As := [.int (xs (i3 + (1 : Int32)).toNatClampNeg), .int (xs (i3 + (2 : Int32)).toNatClampNeg), .long (((xs (i3 + (3 : Int32)).toNatClampNeg).toInt64 <<< ((32 : Int32).toInt64 &&& 63)) ||| ((xs (i3 + (4 : Int32)).toNatClampNeg).toInt64 &&& (4294967295 : Int64)))]) (rest := [.int r26]) ⟨hx, hb, hml, hown, ht⟩ (kX7_set E l σ25 a2 (xs (i3 + (1 : Int32)).toNatClampNeg) (xs (i3 + (2 : Int32)).toNatClampNeg) (((xs (i3 + (3 : Int32)).toNatClampNeg).toInt64 <<< ((32 : Int32).toInt64 &&& 63)) ||| ((xs (i3 + (4 : Int32)).toNatClampNeg).toInt64 &&& (4294967295 : Int64))) _ hq) mVX7_set q_971 rfl rfl ⟨Nat.le_of_ble_eq_true rfl, Nat.le_of_ble_eq_true rfl⟩ hO hG ho35 (cell_7 ho35.2.2) rfl rfl rfl hl.1 rfl (Nat.le_of_ble_eq_true rfl) dL_law_304 ⟨(by show _ ≤ 600000; omega), (by show _ ≤ 7302249; omega)⟩) hG (fun r34 σ33 H locs hq hG => ?_)
        obtain ⟨eNσ33, eZσ33, hq⟩ := hq
        have hm : sN σ0 ≤ sN σ33 ∧ sZ σ0 ≤ sZ σ33 := ⟨by omega, by omega⟩
        refine W.widen (k := sN σ33 - sN σ0) (n := sZ σ33 - sZ σ0) (by omega) (by omega) ?_
        refine lv_icmp_eq (tgt := 1430) hx hb dL_law_307 (by decide) (fun hc37 => ?_) (fun hc37 => ?_)
        · have hq := hq.1 hc37
          obtain ⟨y38, ey38⟩ : ∃ y : Int32, y = i3 + (7 : Int32) := ⟨_, rfl⟩
          have hq := hq y38 ey38
          refine lv_iinc (v := y38) (lv' := [(3, .int y38), (0, .ref (gA E 0)), (1, .ref (gA E a1)), (2, .ref (gA E a2))]) hx hb dL_law_1430 hl (k := 3) rfl (by rw [ey38]; rfl) (by decide) rfl (fun ls hl => ?_)
          refine lv_goto (tgt := 18) hx hb dL_law_1433 (by decide) ?_
          exact ih y38 σ33 hq hm H locs ls hG (lv_sub hl [1, 2, 3, 0] rfl)
        · have hq := hq.2 hc37
          refine lv_iconst (v := (0 : Int32)) hx hb dL_law_310 (by decide) ?_
          obtain ⟨hz1, hz2, hq⟩ := hq
          exact absurd hq (by decide)
      have hq := hq.2 hs20
      by_cases hs39 : (xs i3.toNatClampNeg &&& (63 : Int32)) = (2 : Int32)
      · have hq := hq.1 hs39
        refine lv_tableIn (off := 279) (tgt := 312) hx hb dL_law_33 (by rw [hs39]; decide) (by rw [hs39]; decide) (by rw [hs39]; rfl) (by decide) ?_
        refine lv_aload_n hx hb dL_law_312 rfl (lv_at hl 1 rfl) ?_
        refine lv_aload_n hx hb dL_law_313 rfl (lv_at hl 0 rfl) ?_
        refine lv_iload_n hx hb dL_law_314 rfl (lv_at hl 3 rfl) ?_
        refine lv_iconst (v := (1 : Int32)) hx hb dL_law_315 (by decide) ?_
        refine lv_iadd hx hb dL_law_316 ?_
        obtain ⟨hi40, hq⟩ := hq
        refine va_sld hx hb hX hbl hbA hG.2 hi40 dL_law_317 ?_
        refine lv_aload_n hx hb dL_law_318 rfl (lv_at hl 0 rfl) ?_
        refine lv_iload_n hx hb dL_law_319 rfl (lv_at hl 3 rfl) ?_
        refine lv_iconst (v := (2 : Int32)) hx hb dL_law_320 (by decide) ?_
        refine lv_iadd hx hb dL_law_321 ?_
        obtain ⟨hi41, hq⟩ := hq
        refine va_sld hx hb hX hbl hbA hG.2 hi41 dL_law_322 ?_
        refine lv_aload_n hx hb dL_law_323 rfl (lv_at hl 0 rfl) ?_
        refine lv_iload_n hx hb dL_law_324 rfl (lv_at hl 3 rfl) ?_
        refine lv_iconst (v := (3 : Int32)) hx hb dL_law_325 (by decide) ?_
        refine lv_iadd hx hb dL_law_326 ?_
        obtain ⟨hi42, hq⟩ := hq
        refine va_sld hx hb hX hbl hbA hG.2 hi42 dL_law_327 ?_
        refine lv_aload_n hx hb dL_law_328 rfl (lv_at hl 0 rfl) ?_
        refine lv_iload_n hx hb dL_law_329 rfl (lv_at hl 3 rfl) ?_
        refine lv_iconst (v := (4 : Int32)) hx hb dL_law_330 (by decide) ?_
        refine lv_iadd hx hb dL_law_331 ?_
        obtain ⟨hi43, hq⟩ := hq
        refine va_sld hx hb hX hbl hbA hG.2 hi43 dL_law_332 ?_
        refine lv_aload_n hx hb dL_law_333 rfl (lv_at hl 0 rfl) ?_
        refine lv_iload_n hx hb dL_law_334 rfl (lv_at hl 3 rfl) ?_
        refine lv_iconst (v := (5 : Int32)) hx hb dL_law_335 (by decide) ?_
        refine lv_iadd hx hb dL_law_336 ?_
        obtain ⟨hi44, hq⟩ := hq
        refine va_sld hx hb hX hbl hbA hG.2 hi44 dL_law_337 ?_
        obtain ⟨ho47, hq⟩ := hq
        obtain ⟨hf48, hf48b, hq⟩ := hq
        refine r_fi (r_V (As := [.int (xs (i3 + (1 : Int32)).toNatClampNeg), .int (xs (i3 + (2 : Int32)).toNatClampNeg), .int (xs (i3 + (3 : Int32)).toNatClampNeg), .int (xs (i3 + (4 : Int32)).toNatClampNeg), .int (xs (i3 + (5 : Int32)).toNatClampNeg)]) (rest := []) ⟨hx, hb, hml, hown, ht⟩ (kX6_copy E l σ a1 (xs (i3 + (1 : Int32)).toNatClampNeg) (xs (i3 + (2 : Int32)).toNatClampNeg) (xs (i3 + (3 : Int32)).toNatClampNeg) (xs (i3 + (4 : Int32)).toNatClampNeg) (xs (i3 + (5 : Int32)).toNatClampNeg) _ hq) mVX6_copy q_297 rfl rfl ⟨Nat.le_of_ble_eq_true rfl, Nat.le_of_ble_eq_true rfl⟩ hO hG ho47 (cell_6 ho47.2.2) rfl rfl rfl hl.1 rfl (Nat.le_of_ble_eq_true rfl) dL_law_338 ⟨(by show _ ≤ 600000; omega), (by show _ ≤ 7302249; omega)⟩) hG (fun r46 σ45 H locs hq hG => ?_)
        obtain ⟨eNσ45, eZσ45, hq⟩ := hq
        have hm : sN σ0 ≤ sN σ45 ∧ sZ σ0 ≤ sZ σ45 := ⟨by omega, by omega⟩
        refine W.widen (k := sN σ45 - sN σ0) (n := sZ σ45 - sZ σ0) (by omega) (by omega) ?_
        refine lv_aload_n hx hb dL_law_341 rfl (lv_at hl 2 rfl) ?_
        refine lv_aload_n hx hb dL_law_342 rfl (lv_at hl 0 rfl) ?_
        refine lv_iload_n hx hb dL_law_343 rfl (lv_at hl 3 rfl) ?_
        refine lv_iconst (v := (1 : Int32)) hx hb dL_law_344 (by decide) ?_
        refine lv_iadd hx hb dL_law_345 ?_
        obtain ⟨hi49, hq⟩ := hq
        refine va_sld hx hb hX hbl hbA hG.2 hi49 dL_law_346 ?_
        refine lv_aload_n hx hb dL_law_347 rfl (lv_at hl 0 rfl) ?_
        refine lv_iload_n hx hb dL_law_348 rfl (lv_at hl 3 rfl) ?_
        refine lv_iconst (v := (2 : Int32)) hx hb dL_law_349 (by decide) ?_
        refine lv_iadd hx hb dL_law_350 ?_
        obtain ⟨hi50, hq⟩ := hq
        refine va_sld hx hb hX hbl hbA hG.2 hi50 dL_law_351 ?_
        refine lv_aload_n hx hb dL_law_352 rfl (lv_at hl 0 rfl) ?_
        refine lv_iload_n hx hb dL_law_353 rfl (lv_at hl 3 rfl) ?_
        refine lv_iconst (v := (3 : Int32)) hx hb dL_law_354 (by decide) ?_
        refine lv_iadd hx hb dL_law_355 ?_
        obtain ⟨hi51, hq⟩ := hq
        refine va_sld hx hb hX hbl hbA hG.2 hi51 dL_law_356 ?_
        refine lv_aload_n hx hb dL_law_357 rfl (lv_at hl 0 rfl) ?_
        refine lv_iload_n hx hb dL_law_358 rfl (lv_at hl 3 rfl) ?_
        refine lv_iconst (v := (4 : Int32)) hx hb dL_law_359 (by decide) ?_
        refine lv_iadd hx hb dL_law_360 ?_
        obtain ⟨hi52, hq⟩ := hq
        refine va_sld hx hb hX hbl hbA hG.2 hi52 dL_law_361 ?_
        refine lv_aload_n hx hb dL_law_362 rfl (lv_at hl 0 rfl) ?_
        refine lv_iload_n hx hb dL_law_363 rfl (lv_at hl 3 rfl) ?_
        refine lv_iconst (v := (5 : Int32)) hx hb dL_law_364 (by decide) ?_
        refine lv_iadd hx hb dL_law_365 ?_
        obtain ⟨hi53, hq⟩ := hq
        refine va_sld hx hb hX hbl hbA hG.2 hi53 dL_law_366 ?_
        obtain ⟨ho56, hq⟩ := hq
        obtain ⟨hf57, hf57b, hq⟩ := hq
        refine r_fi (r_V (As := [.int (xs (i3 + (1 : Int32)).toNatClampNeg), .int (xs (i3 + (2 : Int32)).toNatClampNeg), .int (xs (i3 + (3 : Int32)).toNatClampNeg), .int (xs (i3 + (4 : Int32)).toNatClampNeg), .int (xs (i3 + (5 : Int32)).toNatClampNeg)]) (rest := [.int r46]) ⟨hx, hb, hml, hown, ht⟩ (kX7_copy E l σ45 a2 (xs (i3 + (1 : Int32)).toNatClampNeg) (xs (i3 + (2 : Int32)).toNatClampNeg) (xs (i3 + (3 : Int32)).toNatClampNeg) (xs (i3 + (4 : Int32)).toNatClampNeg) (xs (i3 + (5 : Int32)).toNatClampNeg) _ hq) mVX7_copy q_978 rfl rfl ⟨Nat.le_of_ble_eq_true rfl, Nat.le_of_ble_eq_true rfl⟩ hO hG ho56 (cell_7 ho56.2.2) rfl rfl rfl hl.1 rfl (Nat.le_of_ble_eq_true rfl) dL_law_367 ⟨(by show _ ≤ 600000; omega), (by show _ ≤ 7302249; omega)⟩) hG (fun r55 σ54 H locs hq hG => ?_)
        obtain ⟨eNσ54, eZσ54, hq⟩ := hq
        have hm : sN σ0 ≤ sN σ54 ∧ sZ σ0 ≤ sZ σ54 := ⟨by omega, by omega⟩
        refine W.widen (k := sN σ54 - sN σ0) (n := sZ σ54 - sZ σ0) (by omega) (by omega) ?_
        refine lv_icmp_eq (tgt := 1430) hx hb dL_law_370 (by decide) (fun hc58 => ?_) (fun hc58 => ?_)
        · have hq := hq.1 hc58
          obtain ⟨y59, ey59⟩ : ∃ y : Int32, y = i3 + (7 : Int32) := ⟨_, rfl⟩
          have hq := hq y59 ey59
          refine lv_iinc (v := y59) (lv' := [(3, .int y59), (0, .ref (gA E 0)), (1, .ref (gA E a1)), (2, .ref (gA E a2))]) hx hb dL_law_1430 hl (k := 3) rfl (by rw [ey59]; rfl) (by decide) rfl (fun ls hl => ?_)
          refine lv_goto (tgt := 18) hx hb dL_law_1433 (by decide) ?_
          exact ih y59 σ54 hq hm H locs ls hG (lv_sub hl [1, 2, 3, 0] rfl)
        · have hq := hq.2 hc58
          refine lv_iconst (v := (0 : Int32)) hx hb dL_law_373 (by decide) ?_
          obtain ⟨hz1, hz2, hq⟩ := hq
          exact absurd hq (by decide)
      have hq := hq.2 hs39
      by_cases hs60 : (xs i3.toNatClampNeg &&& (63 : Int32)) = (3 : Int32)
      · have hq := hq.1 hs60
        refine lv_tableIn (off := 342) (tgt := 375) hx hb dL_law_33 (by rw [hs60]; decide) (by rw [hs60]; decide) (by rw [hs60]; rfl) (by decide) ?_
        refine lv_aload_n hx hb dL_law_375 rfl (lv_at hl 1 rfl) ?_
        refine lv_aload_n hx hb dL_law_376 rfl (lv_at hl 0 rfl) ?_
        refine lv_iload_n hx hb dL_law_377 rfl (lv_at hl 3 rfl) ?_
        refine lv_iconst (v := (1 : Int32)) hx hb dL_law_378 (by decide) ?_
        refine lv_iadd hx hb dL_law_379 ?_
        obtain ⟨hi61, hq⟩ := hq
        refine va_sld hx hb hX hbl hbA hG.2 hi61 dL_law_380 ?_
        refine lv_aload_n hx hb dL_law_381 rfl (lv_at hl 0 rfl) ?_
        refine lv_iload_n hx hb dL_law_382 rfl (lv_at hl 3 rfl) ?_
        refine lv_iconst (v := (2 : Int32)) hx hb dL_law_383 (by decide) ?_
        refine lv_iadd hx hb dL_law_384 ?_
        obtain ⟨hi62, hq⟩ := hq
        refine va_sld hx hb hX hbl hbA hG.2 hi62 dL_law_385 ?_
        obtain ⟨ho65, hq⟩ := hq
        obtain ⟨hf66, hf66b, hq⟩ := hq
        refine r_fl (r_V (As := [.int (xs (i3 + (1 : Int32)).toNatClampNeg), .int (xs (i3 + (2 : Int32)).toNatClampNeg)]) (rest := []) ⟨hx, hb, hml, hown, ht⟩ (kX6_element E l σ a1 (xs (i3 + (1 : Int32)).toNatClampNeg) (xs (i3 + (2 : Int32)).toNatClampNeg) _ hq) mVX6_element q_316 rfl rfl ⟨Nat.le_of_ble_eq_true rfl, Nat.le_of_ble_eq_true rfl⟩ hO hG ho65 (cell_6 ho65.2.2) rfl rfl rfl hl.1 rfl (Nat.le_of_ble_eq_true rfl) dL_law_386 ⟨(by show _ ≤ 600000; omega), (by show _ ≤ 7302249; omega)⟩) hG (fun r64 σ63 H locs hq hG => ?_)
        obtain ⟨eNσ63, eZσ63, hq⟩ := hq
        have hm : sN σ0 ≤ sN σ63 ∧ sZ σ0 ≤ sZ σ63 := ⟨by omega, by omega⟩
        refine W.widen (k := sN σ63 - sN σ0) (n := sZ σ63 - sZ σ0) (by omega) (by omega) ?_
        refine lv_aload_n hx hb dL_law_389 rfl (lv_at hl 2 rfl) ?_
        refine lv_aload_n hx hb dL_law_390 rfl (lv_at hl 0 rfl) ?_
        refine lv_iload_n hx hb dL_law_391 rfl (lv_at hl 3 rfl) ?_
        refine lv_iconst (v := (1 : Int32)) hx hb dL_law_392 (by decide) ?_
        refine lv_iadd hx hb dL_law_393 ?_
        obtain ⟨hi67, hq⟩ := hq
        refine va_sld hx hb hX hbl hbA hG.2 hi67 dL_law_394 ?_
        refine lv_aload_n hx hb dL_law_395 rfl (lv_at hl 0 rfl) ?_
        refine lv_iload_n hx hb dL_law_396 rfl (lv_at hl 3 rfl) ?_
        refine lv_iconst (v := (2 : Int32)) hx hb dL_law_397 (by decide) ?_
        refine lv_iadd hx hb dL_law_398 ?_
        obtain ⟨hi68, hq⟩ := hq
        refine va_sld hx hb hX hbl hbA hG.2 hi68 dL_law_399 ?_
        obtain ⟨ho71, hq⟩ := hq
        obtain ⟨hf72, hf72b, hq⟩ := hq
        refine r_fl (r_V (As := [.int (xs (i3 + (1 : Int32)).toNatClampNeg), .int (xs (i3 + (2 : Int32)).toNatClampNeg)]) (rest := [.long r64]) ⟨hx, hb, hml, hown, ht⟩ (kX7_element E l σ63 a2 (xs (i3 + (1 : Int32)).toNatClampNeg) (xs (i3 + (2 : Int32)).toNatClampNeg) _ hq) mVX7_element q_982 rfl rfl ⟨Nat.le_of_ble_eq_true rfl, Nat.le_of_ble_eq_true rfl⟩ hO hG ho71 (cell_7 ho71.2.2) rfl rfl rfl hl.1 rfl (Nat.le_of_ble_eq_true rfl) dL_law_400 ⟨(by show _ ≤ 600000; omega), (by show _ ≤ 7302249; omega)⟩) hG (fun r70 σ69 H locs hq hG => ?_)
        obtain ⟨eNσ69, eZσ69, hq⟩ := hq
        have hm : sN σ0 ≤ sN σ69 ∧ sZ σ0 ≤ sZ σ69 := ⟨by omega, by omega⟩
        refine W.widen (k := sN σ69 - sN σ0) (n := sZ σ69 - sZ σ0) (by omega) (by omega) ?_
        refine W.lcmp hx hb dL_law_403 ?_
        refine lv_if_eq (tgt := 1430) hx hb dL_law_404 (by decide) (fun hc73 => ?_) (fun hc73 => ?_)
        · have hq := hq.1 hc73
          obtain ⟨y74, ey74⟩ : ∃ y : Int32, y = i3 + (7 : Int32) := ⟨_, rfl⟩
          have hq := hq y74 ey74
          refine lv_iinc (v := y74) (lv' := [(3, .int y74), (0, .ref (gA E 0)), (1, .ref (gA E a1)), (2, .ref (gA E a2))]) hx hb dL_law_1430 hl (k := 3) rfl (by rw [ey74]; rfl) (by decide) rfl (fun ls hl => ?_)
          refine lv_goto (tgt := 18) hx hb dL_law_1433 (by decide) ?_
          exact ih y74 σ69 hq hm H locs ls hG (lv_sub hl [1, 2, 3, 0] rfl)
        · have hq := hq.2 hc73
          refine lv_iconst (v := (0 : Int32)) hx hb dL_law_407 (by decide) ?_
          obtain ⟨hz1, hz2, hq⟩ := hq
          exact absurd hq (by decide)
      have hq := hq.2 hs60
      by_cases hs75 : (xs i3.toNatClampNeg &&& (63 : Int32)) = (4 : Int32)
      · have hq := hq.1 hs75
        refine lv_tableIn (off := 376) (tgt := 409) hx hb dL_law_33 (by rw [hs75]; decide) (by rw [hs75]; decide) (by rw [hs75]; rfl) (by decide) ?_
        refine lv_aload_n hx hb dL_law_409 rfl (lv_at hl 1 rfl) ?_
        refine lv_aload_n hx hb dL_law_410 rfl (lv_at hl 0 rfl) ?_
        refine lv_iload_n hx hb dL_law_411 rfl (lv_at hl 3 rfl) ?_
        refine lv_iconst (v := (1 : Int32)) hx hb dL_law_412 (by decide) ?_
        refine lv_iadd hx hb dL_law_413 ?_
        obtain ⟨hi76, hq⟩ := hq
        refine va_sld hx hb hX hbl hbA hG.2 hi76 dL_law_414 ?_
        obtain ⟨ho79, hq⟩ := hq
        obtain ⟨hf80, hf80b, hq⟩ := hq
        refine r_fi (r_V (As := [.int (xs (i3 + (1 : Int32)).toNatClampNeg)]) (rest := []) ⟨hx, hb, hml, hown, ht⟩ (kX6_holds E l σ a1 (xs (i3 + (1 : Int32)).toNatClampNeg) _ hq) mVX6_holds q_325 rfl rfl ⟨Nat.le_of_ble_eq_true rfl, Nat.le_of_ble_eq_true rfl⟩ hO hG ho79 (cell_6 ho79.2.2) rfl rfl rfl hl.1 rfl (Nat.le_of_ble_eq_true rfl) dL_law_415 ⟨(by show _ ≤ 600000; omega), (by show _ ≤ 7302249; omega)⟩) hG (fun r78 σ77 H locs hq hG => ?_)
        obtain ⟨eNσ77, eZσ77, hq⟩ := hq
        have hm : sN σ0 ≤ sN σ77 ∧ sZ σ0 ≤ sZ σ77 := ⟨by omega, by omega⟩
        refine W.widen (k := sN σ77 - sN σ0) (n := sZ σ77 - sZ σ0) (by omega) (by omega) ?_
        refine lv_aload_n hx hb dL_law_418 rfl (lv_at hl 2 rfl) ?_
        refine lv_aload_n hx hb dL_law_419 rfl (lv_at hl 0 rfl) ?_
        refine lv_iload_n hx hb dL_law_420 rfl (lv_at hl 3 rfl) ?_
        refine lv_iconst (v := (1 : Int32)) hx hb dL_law_421 (by decide) ?_
        refine lv_iadd hx hb dL_law_422 ?_
        obtain ⟨hi81, hq⟩ := hq
        refine va_sld hx hb hX hbl hbA hG.2 hi81 dL_law_423 ?_
        obtain ⟨ho84, hq⟩ := hq
        obtain ⟨hf85, hf85b, hq⟩ := hq
        refine r_fi (r_V (As := [.int (xs (i3 + (1 : Int32)).toNatClampNeg)]) (rest := [.int r78]) ⟨hx, hb, hml, hown, ht⟩ (kX7_holds E l σ77 a2 (xs (i3 + (1 : Int32)).toNatClampNeg) _ hq) mVX7_holds q_986 rfl rfl ⟨Nat.le_of_ble_eq_true rfl, Nat.le_of_ble_eq_true rfl⟩ hO hG ho84 (cell_7 ho84.2.2) rfl rfl rfl hl.1 rfl (Nat.le_of_ble_eq_true rfl) dL_law_424 ⟨(by show _ ≤ 600000; omega), (by show _ ≤ 7302249; omega)⟩) hG (fun r83 σ82 H locs hq hG => ?_)
        obtain ⟨eNσ82, eZσ82, hq⟩ := hq
        have hm : sN σ0 ≤ sN σ82 ∧ sZ σ0 ≤ sZ σ82 := ⟨by omega, by omega⟩
        refine W.widen (k := sN σ82 - sN σ0) (n := sZ σ82 - sZ σ0) (by omega) (by omega) ?_
        refine lv_icmp_eq (tgt := 1430) hx hb dL_law_427 (by decide) (fun hc86 => ?_) (fun hc86 => ?_)
        · have hq := hq.1 hc86
          obtain ⟨y87, ey87⟩ : ∃ y : Int32, y = i3 + (7 : Int32) := ⟨_, rfl⟩
          have hq := hq y87 ey87
          refine lv_iinc (v := y87) (lv' := [(3, .int y87), (0, .ref (gA E 0)), (1, .ref (gA E a1)), (2, .ref (gA E a2))]) hx hb dL_law_1430 hl (k := 3) rfl (by rw [ey87]; rfl) (by decide) rfl (fun ls hl => ?_)
          refine lv_goto (tgt := 18) hx hb dL_law_1433 (by decide) ?_
          exact ih y87 σ82 hq hm H locs ls hG (lv_sub hl [1, 2, 3, 0] rfl)
        · have hq := hq.2 hc86
          refine lv_iconst (v := (0 : Int32)) hx hb dL_law_430 (by decide) ?_
          obtain ⟨hz1, hz2, hq⟩ := hq
          exact absurd hq (by decide)
      have hq := hq.2 hs75
      by_cases hs88 : (xs i3.toNatClampNeg &&& (63 : Int32)) = (5 : Int32)
      · have hq := hq.1 hs88
        refine lv_tableIn (off := 399) (tgt := 432) hx hb dL_law_33 (by rw [hs88]; decide) (by rw [hs88]; decide) (by rw [hs88]; rfl) (by decide) ?_
        refine lv_aload_n hx hb dL_law_432 rfl (lv_at hl 1 rfl) ?_
        refine lv_aload_n hx hb dL_law_433 rfl (lv_at hl 0 rfl) ?_
        refine lv_iload_n hx hb dL_law_434 rfl (lv_at hl 3 rfl) ?_
        refine lv_iconst (v := (1 : Int32)) hx hb dL_law_435 (by decide) ?_
        refine lv_iadd hx hb dL_law_436 ?_
        obtain ⟨hi89, hq⟩ := hq
        refine va_sld hx hb hX hbl hbA hG.2 hi89 dL_law_437 ?_
        refine lv_aload_n hx hb dL_law_438 rfl (lv_at hl 0 rfl) ?_
        refine lv_iload_n hx hb dL_law_439 rfl (lv_at hl 3 rfl) ?_
        refine lv_iconst (v := (2 : Int32)) hx hb dL_law_440 (by decide) ?_
        refine lv_iadd hx hb dL_law_441 ?_
        obtain ⟨hi90, hq⟩ := hq
        refine va_sld hx hb hX hbl hbA hG.2 hi90 dL_law_442 ?_
        refine lv_aload_n hx hb dL_law_443 rfl (lv_at hl 0 rfl) ?_
        refine lv_iload_n hx hb dL_law_444 rfl (lv_at hl 3 rfl) ?_
        refine lv_iconst (v := (3 : Int32)) hx hb dL_law_445 (by decide) ?_
        refine lv_iadd hx hb dL_law_446 ?_
        obtain ⟨hi91, hq⟩ := hq
        refine va_sld hx hb hX hbl hbA hG.2 hi91 dL_law_447 ?_
        obtain ⟨ho94, hq⟩ := hq
        obtain ⟨hf95, hf95b, hq⟩ := hq
        refine r_fi (r_V (As := [.int (xs (i3 + (1 : Int32)).toNatClampNeg), .int (xs (i3 + (2 : Int32)).toNatClampNeg), .int (xs (i3 + (3 : Int32)).toNatClampNeg)]) (rest := []) ⟨hx, hb, hml, hown, ht⟩ (kX6_rule E l σ a1 (xs (i3 + (1 : Int32)).toNatClampNeg) (xs (i3 + (2 : Int32)).toNatClampNeg) (xs (i3 + (3 : Int32)).toNatClampNeg) _ hq) mVX6_rule q_330 rfl rfl ⟨Nat.le_of_ble_eq_true rfl, Nat.le_of_ble_eq_true rfl⟩ hO hG ho94 (cell_6 ho94.2.2) rfl rfl rfl hl.1 rfl (Nat.le_of_ble_eq_true rfl) dL_law_448 ⟨(by show _ ≤ 600000; omega), (by show _ ≤ 7302249; omega)⟩) hG (fun r93 σ92 H locs hq hG => ?_)
        obtain ⟨eNσ92, eZσ92, hq⟩ := hq
        have hm : sN σ0 ≤ sN σ92 ∧ sZ σ0 ≤ sZ σ92 := ⟨by omega, by omega⟩
        refine W.widen (k := sN σ92 - sN σ0) (n := sZ σ92 - sZ σ0) (by omega) (by omega) ?_
        refine lv_aload_n hx hb dL_law_451 rfl (lv_at hl 2 rfl) ?_
        refine lv_aload_n hx hb dL_law_452 rfl (lv_at hl 0 rfl) ?_
        refine lv_iload_n hx hb dL_law_453 rfl (lv_at hl 3 rfl) ?_
        refine lv_iconst (v := (1 : Int32)) hx hb dL_law_454 (by decide) ?_
        refine lv_iadd hx hb dL_law_455 ?_
        obtain ⟨hi96, hq⟩ := hq
        refine va_sld hx hb hX hbl hbA hG.2 hi96 dL_law_456 ?_
        refine lv_aload_n hx hb dL_law_457 rfl (lv_at hl 0 rfl) ?_
        refine lv_iload_n hx hb dL_law_458 rfl (lv_at hl 3 rfl) ?_
        refine lv_iconst (v := (2 : Int32)) hx hb dL_law_459 (by decide) ?_
        refine lv_iadd hx hb dL_law_460 ?_
        obtain ⟨hi97, hq⟩ := hq
        refine va_sld hx hb hX hbl hbA hG.2 hi97 dL_law_461 ?_
        refine lv_aload_n hx hb dL_law_462 rfl (lv_at hl 0 rfl) ?_
        refine lv_iload_n hx hb dL_law_463 rfl (lv_at hl 3 rfl) ?_
        refine lv_iconst (v := (3 : Int32)) hx hb dL_law_464 (by decide) ?_
        refine lv_iadd hx hb dL_law_465 ?_
        obtain ⟨hi98, hq⟩ := hq
        refine va_sld hx hb hX hbl hbA hG.2 hi98 dL_law_466 ?_
        obtain ⟨ho101, hq⟩ := hq
        obtain ⟨hf102, hf102b, hq⟩ := hq
        refine r_fi (r_V (As := [.int (xs (i3 + (1 : Int32)).toNatClampNeg), .int (xs (i3 + (2 : Int32)).toNatClampNeg), .int (xs (i3 + (3 : Int32)).toNatClampNeg)]) (rest := [.int r93]) ⟨hx, hb, hml, hown, ht⟩ (kX7_rule E l σ92 a2 (xs (i3 + (1 : Int32)).toNatClampNeg) (xs (i3 + (2 : Int32)).toNatClampNeg) (xs (i3 + (3 : Int32)).toNatClampNeg) _ hq) mVX7_rule q_990 rfl rfl ⟨Nat.le_of_ble_eq_true rfl, Nat.le_of_ble_eq_true rfl⟩ hO hG ho101 (cell_7 ho101.2.2) rfl rfl rfl hl.1 rfl (Nat.le_of_ble_eq_true rfl) dL_law_467 ⟨(by show _ ≤ 600000; omega), (by show _ ≤ 7302249; omega)⟩) hG (fun r100 σ99 H locs hq hG => ?_)
        obtain ⟨eNσ99, eZσ99, hq⟩ := hq
        have hm : sN σ0 ≤ sN σ99 ∧ sZ σ0 ≤ sZ σ99 := ⟨by omega, by omega⟩
        refine W.widen (k := sN σ99 - sN σ0) (n := sZ σ99 - sZ σ0) (by omega) (by omega) ?_
        refine lv_icmp_eq (tgt := 1430) hx hb dL_law_470 (by decide) (fun hc103 => ?_) (fun hc103 => ?_)
        · have hq := hq.1 hc103
          obtain ⟨y104, ey104⟩ : ∃ y : Int32, y = i3 + (7 : Int32) := ⟨_, rfl⟩
          have hq := hq y104 ey104
          refine lv_iinc (v := y104) (lv' := [(3, .int y104), (0, .ref (gA E 0)), (1, .ref (gA E a1)), (2, .ref (gA E a2))]) hx hb dL_law_1430 hl (k := 3) rfl (by rw [ey104]; rfl) (by decide) rfl (fun ls hl => ?_)
          refine lv_goto (tgt := 18) hx hb dL_law_1433 (by decide) ?_
          exact ih y104 σ99 hq hm H locs ls hG (lv_sub hl [1, 2, 3, 0] rfl)
        · have hq := hq.2 hc103
          refine lv_iconst (v := (0 : Int32)) hx hb dL_law_473 (by decide) ?_
          obtain ⟨hz1, hz2, hq⟩ := hq
          exact absurd hq (by decide)
      have hq := hq.2 hs88
      by_cases hs105 : (xs i3.toNatClampNeg &&& (63 : Int32)) = (6 : Int32)
      · have hq := hq.1 hs105
        refine lv_tableIn (off := 442) (tgt := 475) hx hb dL_law_33 (by rw [hs105]; decide) (by rw [hs105]; decide) (by rw [hs105]; rfl) (by decide) ?_
        refine lv_aload_n hx hb dL_law_475 rfl (lv_at hl 1 rfl) ?_
        refine lv_aload_n hx hb dL_law_476 rfl (lv_at hl 0 rfl) ?_
        refine lv_iload_n hx hb dL_law_477 rfl (lv_at hl 3 rfl) ?_
        refine lv_iconst (v := (1 : Int32)) hx hb dL_law_478 (by decide) ?_
        refine lv_iadd hx hb dL_law_479 ?_
        obtain ⟨hi106, hq⟩ := hq
        refine va_sld hx hb hX hbl hbA hG.2 hi106 dL_law_480 ?_
        refine lv_aload_n hx hb dL_law_481 rfl (lv_at hl 0 rfl) ?_
        refine lv_iload_n hx hb dL_law_482 rfl (lv_at hl 3 rfl) ?_
        refine lv_iconst (v := (2 : Int32)) hx hb dL_law_483 (by decide) ?_
        refine lv_iadd hx hb dL_law_484 ?_
        obtain ⟨hi107, hq⟩ := hq
        refine va_sld hx hb hX hbl hbA hG.2 hi107 dL_law_485 ?_
        obtain ⟨ho110, hq⟩ := hq
        obtain ⟨hf111, hf111b, hq⟩ := hq
        refine r_fi (r_V (As := [.int (xs (i3 + (1 : Int32)).toNatClampNeg), .int (xs (i3 + (2 : Int32)).toNatClampNeg)]) (rest := []) ⟨hx, hb, hml, hown, ht⟩ (kX6_says E l σ a1 (xs (i3 + (1 : Int32)).toNatClampNeg) (xs (i3 + (2 : Int32)).toNatClampNeg) _ hq) mVX6_says q_338 rfl rfl ⟨Nat.le_of_ble_eq_true rfl, Nat.le_of_ble_eq_true rfl⟩ hO hG ho110 (cell_6 ho110.2.2) rfl rfl rfl hl.1 rfl (Nat.le_of_ble_eq_true rfl) dL_law_486 ⟨(by show _ ≤ 600000; omega), (by show _ ≤ 7302249; omega)⟩) hG (fun r109 σ108 H locs hq hG => ?_)
        obtain ⟨eNσ108, eZσ108, hq⟩ := hq
        have hm : sN σ0 ≤ sN σ108 ∧ sZ σ0 ≤ sZ σ108 := ⟨by omega, by omega⟩
        refine W.widen (k := sN σ108 - sN σ0) (n := sZ σ108 - sZ σ0) (by omega) (by omega) ?_
        refine lv_aload_n hx hb dL_law_489 rfl (lv_at hl 2 rfl) ?_
        refine lv_aload_n hx hb dL_law_490 rfl (lv_at hl 0 rfl) ?_
        refine lv_iload_n hx hb dL_law_491 rfl (lv_at hl 3 rfl) ?_
        refine lv_iconst (v := (1 : Int32)) hx hb dL_law_492 (by decide) ?_
        refine lv_iadd hx hb dL_law_493 ?_
        obtain ⟨hi112, hq⟩ := hq
        refine va_sld hx hb hX hbl hbA hG.2 hi112 dL_law_494 ?_
        refine lv_aload_n hx hb dL_law_495 rfl (lv_at hl 0 rfl) ?_
        refine lv_iload_n hx hb dL_law_496 rfl (lv_at hl 3 rfl) ?_
        refine lv_iconst (v := (2 : Int32)) hx hb dL_law_497 (by decide) ?_
        refine lv_iadd hx hb dL_law_498 ?_
        obtain ⟨hi113, hq⟩ := hq
        refine va_sld hx hb hX hbl hbA hG.2 hi113 dL_law_499 ?_
        obtain ⟨ho116, hq⟩ := hq
        obtain ⟨hf117, hf117b, hq⟩ := hq
        refine r_fi (r_V (As := [.int (xs (i3 + (1 : Int32)).toNatClampNeg), .int (xs (i3 + (2 : Int32)).toNatClampNeg)]) (rest := [.int r109]) ⟨hx, hb, hml, hown, ht⟩ (kX7_says E l σ108 a2 (xs (i3 + (1 : Int32)).toNatClampNeg) (xs (i3 + (2 : Int32)).toNatClampNeg) _ hq) mVX7_says q_996 rfl rfl ⟨Nat.le_of_ble_eq_true rfl, Nat.le_of_ble_eq_true rfl⟩ hO hG ho116 (cell_7 ho116.2.2) rfl rfl rfl hl.1 rfl (Nat.le_of_ble_eq_true rfl) dL_law_500 ⟨(by show _ ≤ 600000; omega), (by show _ ≤ 7302249; omega)⟩) hG (fun r115 σ114 H locs hq hG => ?_)
        obtain ⟨eNσ114, eZσ114, hq⟩ := hq
        have hm : sN σ0 ≤ sN σ114 ∧ sZ σ0 ≤ sZ σ114 := ⟨by omega, by omega⟩
        refine W.widen (k := sN σ114 - sN σ0) (n := sZ σ114 - sZ σ0) (by omega) (by omega) ?_
        refine lv_icmp_eq (tgt := 1430) hx hb dL_law_503 (by decide) (fun hc118 => ?_) (fun hc118 => ?_)
        · have hq := hq.1 hc118
          obtain ⟨y119, ey119⟩ : ∃ y : Int32, y = i3 + (7 : Int32) := ⟨_, rfl⟩
          have hq := hq y119 ey119
          refine lv_iinc (v := y119) (lv' := [(3, .int y119), (0, .ref (gA E 0)), (1, .ref (gA E a1)), (2, .ref (gA E a2))]) hx hb dL_law_1430 hl (k := 3) rfl (by rw [ey119]; rfl) (by decide) rfl (fun ls hl => ?_)
          refine lv_goto (tgt := 18) hx hb dL_law_1433 (by decide) ?_
          exact ih y119 σ114 hq hm H locs ls hG (lv_sub hl [1, 2, 3, 0] rfl)
        · have hq := hq.2 hc118
          refine lv_iconst (v := (0 : Int32)) hx hb dL_law_506 (by decide) ?_
          obtain ⟨hz1, hz2, hq⟩ := hq
          exact absurd hq (by decide)
      have hq := hq.2 hs105
      by_cases hs120 : (xs i3.toNatClampNeg &&& (63 : Int32)) = (7 : Int32)
      · have hq := hq.1 hs120
        refine lv_tableIn (off := 475) (tgt := 508) hx hb dL_law_33 (by rw [hs120]; decide) (by rw [hs120]; decide) (by rw [hs120]; rfl) (by decide) ?_
        refine lv_aload_n hx hb dL_law_508 rfl (lv_at hl 1 rfl) ?_
        refine lv_aload_n hx hb dL_law_509 rfl (lv_at hl 0 rfl) ?_
        refine lv_iload_n hx hb dL_law_510 rfl (lv_at hl 3 rfl) ?_
        refine lv_iconst (v := (1 : Int32)) hx hb dL_law_511 (by decide) ?_
        refine lv_iadd hx hb dL_law_512 ?_
        obtain ⟨hi121, hq⟩ := hq
        refine va_sld hx hb hX hbl hbA hG.2 hi121 dL_law_513 ?_
        refine lv_aload_n hx hb dL_law_514 rfl (lv_at hl 0 rfl) ?_
        refine lv_iload_n hx hb dL_law_515 rfl (lv_at hl 3 rfl) ?_
        refine lv_iconst (v := (2 : Int32)) hx hb dL_law_516 (by decide) ?_
        refine lv_iadd hx hb dL_law_517 ?_
        obtain ⟨hi122, hq⟩ := hq
        refine va_sld hx hb hX hbl hbA hG.2 hi122 dL_law_518 ?_
        refine lv_aload_n hx hb dL_law_519 rfl (lv_at hl 0 rfl) ?_
        refine lv_iload_n hx hb dL_law_520 rfl (lv_at hl 3 rfl) ?_
        refine lv_iconst (v := (3 : Int32)) hx hb dL_law_521 (by decide) ?_
        refine lv_iadd hx hb dL_law_522 ?_
        obtain ⟨hi123, hq⟩ := hq
        refine va_sld hx hb hX hbl hbA hG.2 hi123 dL_law_523 ?_
        refine lv_aload_n hx hb dL_law_524 rfl (lv_at hl 0 rfl) ?_
        refine lv_iload_n hx hb dL_law_525 rfl (lv_at hl 3 rfl) ?_
        refine lv_iconst (v := (4 : Int32)) hx hb dL_law_526 (by decide) ?_
        refine lv_iadd hx hb dL_law_527 ?_
        obtain ⟨hi124, hq⟩ := hq
        refine va_sld hx hb hX hbl hbA hG.2 hi124 dL_law_528 ?_
        refine lv_aload_n hx hb dL_law_529 rfl (lv_at hl 0 rfl) ?_
        refine lv_iload_n hx hb dL_law_530 rfl (lv_at hl 3 rfl) ?_
        refine lv_iconst (v := (5 : Int32)) hx hb dL_law_531 (by decide) ?_
        refine lv_iadd hx hb dL_law_532 ?_
        obtain ⟨hi125, hq⟩ := hq
        refine va_sld hx hb hX hbl hbA hG.2 hi125 dL_law_533 ?_
        refine lv_aload_n hx hb dL_law_534 rfl (lv_at hl 0 rfl) ?_
        refine lv_iload_n hx hb dL_law_535 rfl (lv_at hl 3 rfl) ?_
        refine lv_bipush (v := (6 : Int32)) hx hb dL_law_536 (by decide) ?_
        refine lv_iadd hx hb dL_law_538 ?_
        obtain ⟨hi126, hq⟩ := hq
        refine va_sld hx hb hX hbl hbA hG.2 hi126 dL_law_539 ?_
        obtain ⟨ho129, hq⟩ := hq
        obtain ⟨hf130, hf130b, hq⟩ := hq
        refine r_fi (r_V (As := [.int (xs (i3 + (1 : Int32)).toNatClampNeg), .int (xs (i3 + (2 : Int32)).toNatClampNeg), .int (xs (i3 + (3 : Int32)).toNatClampNeg), .int (xs (i3 + (4 : Int32)).toNatClampNeg), .int (xs (i3 + (5 : Int32)).toNatClampNeg), .int (xs (i3 + (6 : Int32)).toNatClampNeg)]) (rest := []) ⟨hx, hb, hml, hown, ht⟩ (kX6_debt E l σ a1 (xs (i3 + (1 : Int32)).toNatClampNeg) (xs (i3 + (2 : Int32)).toNatClampNeg) (xs (i3 + (3 : Int32)).toNatClampNeg) (xs (i3 + (4 : Int32)).toNatClampNeg) (xs (i3 + (5 : Int32)).toNatClampNeg) (xs (i3 + (6 : Int32)).toNatClampNeg) _ hq) mVX6_debt q_412 rfl rfl ⟨Nat.le_of_ble_eq_true rfl, Nat.le_of_ble_eq_true rfl⟩ hO hG ho129 (cell_6 ho129.2.2) rfl rfl rfl hl.1 rfl (Nat.le_of_ble_eq_true rfl) dL_law_540 ⟨(by show _ ≤ 600000; omega), (by show _ ≤ 7302249; omega)⟩) hG (fun r128 σ127 H locs hq hG => ?_)
        obtain ⟨eNσ127, eZσ127, hq⟩ := hq
        have hm : sN σ0 ≤ sN σ127 ∧ sZ σ0 ≤ sZ σ127 := ⟨by omega, by omega⟩
        refine W.widen (k := sN σ127 - sN σ0) (n := sZ σ127 - sZ σ0) (by omega) (by omega) ?_
        refine lv_aload_n hx hb dL_law_543 rfl (lv_at hl 2 rfl) ?_
        refine lv_aload_n hx hb dL_law_544 rfl (lv_at hl 0 rfl) ?_
        refine lv_iload_n hx hb dL_law_545 rfl (lv_at hl 3 rfl) ?_
        refine lv_iconst (v := (1 : Int32)) hx hb dL_law_546 (by decide) ?_
        refine lv_iadd hx hb dL_law_547 ?_
        obtain ⟨hi131, hq⟩ := hq
        refine va_sld hx hb hX hbl hbA hG.2 hi131 dL_law_548 ?_
        refine lv_aload_n hx hb dL_law_549 rfl (lv_at hl 0 rfl) ?_
        refine lv_iload_n hx hb dL_law_550 rfl (lv_at hl 3 rfl) ?_
        refine lv_iconst (v := (2 : Int32)) hx hb dL_law_551 (by decide) ?_
        refine lv_iadd hx hb dL_law_552 ?_
        obtain ⟨hi132, hq⟩ := hq
        refine va_sld hx hb hX hbl hbA hG.2 hi132 dL_law_553 ?_
        refine lv_aload_n hx hb dL_law_554 rfl (lv_at hl 0 rfl) ?_
        refine lv_iload_n hx hb dL_law_555 rfl (lv_at hl 3 rfl) ?_
        refine lv_iconst (v := (3 : Int32)) hx hb dL_law_556 (by decide) ?_
        refine lv_iadd hx hb dL_law_557 ?_
        obtain ⟨hi133, hq⟩ := hq
        refine va_sld hx hb hX hbl hbA hG.2 hi133 dL_law_558 ?_
        refine lv_aload_n hx hb dL_law_559 rfl (lv_at hl 0 rfl) ?_
        refine lv_iload_n hx hb dL_law_560 rfl (lv_at hl 3 rfl) ?_
        refine lv_iconst (v := (4 : Int32)) hx hb dL_law_561 (by decide) ?_
        refine lv_iadd hx hb dL_law_562 ?_
        obtain ⟨hi134, hq⟩ := hq
        refine va_sld hx hb hX hbl hbA hG.2 hi134 dL_law_563 ?_
        refine lv_aload_n hx hb dL_law_564 rfl (lv_at hl 0 rfl) ?_
        refine lv_iload_n hx hb dL_law_565 rfl (lv_at hl 3 rfl) ?_
        refine lv_iconst (v := (5 : Int32)) hx hb dL_law_566 (by decide) ?_
        refine lv_iadd hx hb dL_law_567 ?_
        obtain ⟨hi135, hq⟩ := hq
        refine va_sld hx hb hX hbl hbA hG.2 hi135 dL_law_568 ?_
        refine lv_aload_n hx hb dL_law_569 rfl (lv_at hl 0 rfl) ?_
        refine lv_iload_n hx hb dL_law_570 rfl (lv_at hl 3 rfl) ?_
        refine lv_bipush (v := (6 : Int32)) hx hb dL_law_571 (by decide) ?_
        refine lv_iadd hx hb dL_law_573 ?_
        obtain ⟨hi136, hq⟩ := hq
        refine va_sld hx hb hX hbl hbA hG.2 hi136 dL_law_574 ?_
        obtain ⟨ho139, hq⟩ := hq
        obtain ⟨hf140, hf140b, hq⟩ := hq
        refine r_fi (r_V (As := [.int (xs (i3 + (1 : Int32)).toNatClampNeg), .int (xs (i3 + (2 : Int32)).toNatClampNeg), .int (xs (i3 + (3 : Int32)).toNatClampNeg), .int (xs (i3 + (4 : Int32)).toNatClampNeg), .int (xs (i3 + (5 : Int32)).toNatClampNeg), .int (xs (i3 + (6 : Int32)).toNatClampNeg)]) (rest := [.int r128]) ⟨hx, hb, hml, hown, ht⟩ (kX7_debt E l σ127 a2 (xs (i3 + (1 : Int32)).toNatClampNeg) (xs (i3 + (2 : Int32)).toNatClampNeg) (xs (i3 + (3 : Int32)).toNatClampNeg) (xs (i3 + (4 : Int32)).toNatClampNeg) (xs (i3 + (5 : Int32)).toNatClampNeg) (xs (i3 + (6 : Int32)).toNatClampNeg) _ hq) mVX7_debt q_1031 rfl rfl ⟨Nat.le_of_ble_eq_true rfl, Nat.le_of_ble_eq_true rfl⟩ hO hG ho139 (cell_7 ho139.2.2) rfl rfl rfl hl.1 rfl (Nat.le_of_ble_eq_true rfl) dL_law_575 ⟨(by show _ ≤ 600000; omega), (by show _ ≤ 7302249; omega)⟩) hG (fun r138 σ137 H locs hq hG => ?_)
        obtain ⟨eNσ137, eZσ137, hq⟩ := hq
        have hm : sN σ0 ≤ sN σ137 ∧ sZ σ0 ≤ sZ σ137 := ⟨by omega, by omega⟩
        refine W.widen (k := sN σ137 - sN σ0) (n := sZ σ137 - sZ σ0) (by omega) (by omega) ?_
        refine lv_icmp_eq (tgt := 1430) hx hb dL_law_578 (by decide) (fun hc141 => ?_) (fun hc141 => ?_)
        · have hq := hq.1 hc141
          obtain ⟨y142, ey142⟩ : ∃ y : Int32, y = i3 + (7 : Int32) := ⟨_, rfl⟩
          have hq := hq y142 ey142
          refine lv_iinc (v := y142) (lv' := [(3, .int y142), (0, .ref (gA E 0)), (1, .ref (gA E a1)), (2, .ref (gA E a2))]) hx hb dL_law_1430 hl (k := 3) rfl (by rw [ey142]; rfl) (by decide) rfl (fun ls hl => ?_)
          refine lv_goto (tgt := 18) hx hb dL_law_1433 (by decide) ?_
          exact ih y142 σ137 hq hm H locs ls hG (lv_sub hl [1, 2, 3, 0] rfl)
        · have hq := hq.2 hc141
          refine lv_iconst (v := (0 : Int32)) hx hb dL_law_581 (by decide) ?_
          obtain ⟨hz1, hz2, hq⟩ := hq
          exact absurd hq (by decide)
      have hq := hq.2 hs120
      by_cases hs143 : (xs i3.toNatClampNeg &&& (63 : Int32)) = (8 : Int32)
      · have hq := hq.1 hs143
        refine lv_tableIn (off := 550) (tgt := 583) hx hb dL_law_33 (by rw [hs143]; decide) (by rw [hs143]; decide) (by rw [hs143]; rfl) (by decide) ?_
        refine lv_aload_n hx hb dL_law_583 rfl (lv_at hl 1 rfl) ?_
        refine lv_aload_n hx hb dL_law_584 rfl (lv_at hl 0 rfl) ?_
        refine lv_iload_n hx hb dL_law_585 rfl (lv_at hl 3 rfl) ?_
        refine lv_iconst (v := (1 : Int32)) hx hb dL_law_586 (by decide) ?_
        refine lv_iadd hx hb dL_law_587 ?_
        obtain ⟨hi144, hq⟩ := hq
        refine va_sld hx hb hX hbl hbA hG.2 hi144 dL_law_588 ?_
        refine lv_aload_n hx hb dL_law_589 rfl (lv_at hl 0 rfl) ?_
        refine lv_iload_n hx hb dL_law_590 rfl (lv_at hl 3 rfl) ?_
        refine lv_iconst (v := (2 : Int32)) hx hb dL_law_591 (by decide) ?_
        refine lv_iadd hx hb dL_law_592 ?_
        obtain ⟨hi145, hq⟩ := hq
        refine va_sld hx hb hX hbl hbA hG.2 hi145 dL_law_593 ?_
        obtain ⟨ho148, hq⟩ := hq
        obtain ⟨hf149, hf149b, hq⟩ := hq
        refine r_fi (r_V (As := [.int (xs (i3 + (1 : Int32)).toNatClampNeg), .int (xs (i3 + (2 : Int32)).toNatClampNeg)]) (rest := []) ⟨hx, hb, hml, hown, ht⟩ (kX6_debtOf E l σ a1 (xs (i3 + (1 : Int32)).toNatClampNeg) (xs (i3 + (2 : Int32)).toNatClampNeg) _ hq) mVX6_debtOf q_431 rfl rfl ⟨Nat.le_of_ble_eq_true rfl, Nat.le_of_ble_eq_true rfl⟩ hO hG ho148 (cell_6 ho148.2.2) rfl rfl rfl hl.1 rfl (Nat.le_of_ble_eq_true rfl) dL_law_594 ⟨(by show _ ≤ 600000; omega), (by show _ ≤ 7302249; omega)⟩) hG (fun r147 σ146 H locs hq hG => ?_)
        obtain ⟨eNσ146, eZσ146, hq⟩ := hq
        have hm : sN σ0 ≤ sN σ146 ∧ sZ σ0 ≤ sZ σ146 := ⟨by omega, by omega⟩
        refine W.widen (k := sN σ146 - sN σ0) (n := sZ σ146 - sZ σ0) (by omega) (by omega) ?_
        refine lv_aload_n hx hb dL_law_597 rfl (lv_at hl 2 rfl) ?_
        refine lv_aload_n hx hb dL_law_598 rfl (lv_at hl 0 rfl) ?_
        refine lv_iload_n hx hb dL_law_599 rfl (lv_at hl 3 rfl) ?_
        refine lv_iconst (v := (1 : Int32)) hx hb dL_law_600 (by decide) ?_
        refine lv_iadd hx hb dL_law_601 ?_
        obtain ⟨hi150, hq⟩ := hq
        refine va_sld hx hb hX hbl hbA hG.2 hi150 dL_law_602 ?_
        refine lv_aload_n hx hb dL_law_603 rfl (lv_at hl 0 rfl) ?_
        refine lv_iload_n hx hb dL_law_604 rfl (lv_at hl 3 rfl) ?_
        refine lv_iconst (v := (2 : Int32)) hx hb dL_law_605 (by decide) ?_
        refine lv_iadd hx hb dL_law_606 ?_
        obtain ⟨hi151, hq⟩ := hq
        refine va_sld hx hb hX hbl hbA hG.2 hi151 dL_law_607 ?_
        obtain ⟨ho154, hq⟩ := hq
        obtain ⟨hf155, hf155b, hq⟩ := hq
        refine r_fi (r_V (As := [.int (xs (i3 + (1 : Int32)).toNatClampNeg), .int (xs (i3 + (2 : Int32)).toNatClampNeg)]) (rest := [.int r147]) ⟨hx, hb, hml, hown, ht⟩ (kX7_debtOf E l σ146 a2 (xs (i3 + (1 : Int32)).toNatClampNeg) (xs (i3 + (2 : Int32)).toNatClampNeg) _ hq) mVX7_debtOf q_1046 rfl rfl ⟨Nat.le_of_ble_eq_true rfl, Nat.le_of_ble_eq_true rfl⟩ hO hG ho154 (cell_7 ho154.2.2) rfl rfl rfl hl.1 rfl (Nat.le_of_ble_eq_true rfl) dL_law_608 ⟨(by show _ ≤ 600000; omega), (by show _ ≤ 7302249; omega)⟩) hG (fun r153 σ152 H locs hq hG => ?_)
        obtain ⟨eNσ152, eZσ152, hq⟩ := hq
        have hm : sN σ0 ≤ sN σ152 ∧ sZ σ0 ≤ sZ σ152 := ⟨by omega, by omega⟩
        refine W.widen (k := sN σ152 - sN σ0) (n := sZ σ152 - sZ σ0) (by omega) (by omega) ?_
        refine lv_icmp_eq (tgt := 1430) hx hb dL_law_611 (by decide) (fun hc156 => ?_) (fun hc156 => ?_)
        · have hq := hq.1 hc156
          obtain ⟨y157, ey157⟩ : ∃ y : Int32, y = i3 + (7 : Int32) := ⟨_, rfl⟩
          have hq := hq y157 ey157
          refine lv_iinc (v := y157) (lv' := [(3, .int y157), (0, .ref (gA E 0)), (1, .ref (gA E a1)), (2, .ref (gA E a2))]) hx hb dL_law_1430 hl (k := 3) rfl (by rw [ey157]; rfl) (by decide) rfl (fun ls hl => ?_)
          refine lv_goto (tgt := 18) hx hb dL_law_1433 (by decide) ?_
          exact ih y157 σ152 hq hm H locs ls hG (lv_sub hl [1, 2, 3, 0] rfl)
        · have hq := hq.2 hc156
          refine lv_iconst (v := (0 : Int32)) hx hb dL_law_614 (by decide) ?_
          obtain ⟨hz1, hz2, hq⟩ := hq
          exact absurd hq (by decide)
      have hq := hq.2 hs143
      by_cases hs158 : (xs i3.toNatClampNeg &&& (63 : Int32)) = (9 : Int32)
      · have hq := hq.1 hs158
        refine lv_tableIn (off := 583) (tgt := 616) hx hb dL_law_33 (by rw [hs158]; decide) (by rw [hs158]; decide) (by rw [hs158]; rfl) (by decide) ?_
        refine lv_aload_n hx hb dL_law_616 rfl (lv_at hl 1 rfl) ?_
        refine lv_aload_n hx hb dL_law_617 rfl (lv_at hl 0 rfl) ?_
        refine lv_iload_n hx hb dL_law_618 rfl (lv_at hl 3 rfl) ?_
        refine lv_iconst (v := (1 : Int32)) hx hb dL_law_619 (by decide) ?_
        refine lv_iadd hx hb dL_law_620 ?_
        obtain ⟨hi159, hq⟩ := hq
        refine va_sld hx hb hX hbl hbA hG.2 hi159 dL_law_621 ?_
        refine lv_aload_n hx hb dL_law_622 rfl (lv_at hl 0 rfl) ?_
        refine lv_iload_n hx hb dL_law_623 rfl (lv_at hl 3 rfl) ?_
        refine lv_iconst (v := (2 : Int32)) hx hb dL_law_624 (by decide) ?_
        refine lv_iadd hx hb dL_law_625 ?_
        obtain ⟨hi160, hq⟩ := hq
        refine va_sld hx hb hX hbl hbA hG.2 hi160 dL_law_626 ?_
        refine lv_aload_n hx hb dL_law_627 rfl (lv_at hl 0 rfl) ?_
        refine lv_iload_n hx hb dL_law_628 rfl (lv_at hl 3 rfl) ?_
        refine lv_iconst (v := (3 : Int32)) hx hb dL_law_629 (by decide) ?_
        refine lv_iadd hx hb dL_law_630 ?_
        obtain ⟨hi161, hq⟩ := hq
        refine va_sld hx hb hX hbl hbA hG.2 hi161 dL_law_631 ?_
        obtain ⟨ho164, hq⟩ := hq
        obtain ⟨hf165, hf165b, hq⟩ := hq
        refine r_fi (r_V (As := [.int (xs (i3 + (1 : Int32)).toNatClampNeg), .int (xs (i3 + (2 : Int32)).toNatClampNeg), .int (xs (i3 + (3 : Int32)).toNatClampNeg)]) (rest := []) ⟨hx, hb, hml, hown, ht⟩ (kX6_alter E l σ a1 (xs (i3 + (1 : Int32)).toNatClampNeg) (xs (i3 + (2 : Int32)).toNatClampNeg) (xs (i3 + (3 : Int32)).toNatClampNeg) _ hq) mVX6_alter q_439 rfl rfl ⟨Nat.le_of_ble_eq_true rfl, Nat.le_of_ble_eq_true rfl⟩ hO hG ho164 (cell_6 ho164.2.2) rfl rfl rfl hl.1 rfl (Nat.le_of_ble_eq_true rfl) dL_law_632 ⟨(by show _ ≤ 600000; omega), (by show _ ≤ 7302249; omega)⟩) hG (fun r163 σ162 H locs hq hG => ?_)
        obtain ⟨eNσ162, eZσ162, hq⟩ := hq
        have hm : sN σ0 ≤ sN σ162 ∧ sZ σ0 ≤ sZ σ162 := ⟨by omega, by omega⟩
        refine W.widen (k := sN σ162 - sN σ0) (n := sZ σ162 - sZ σ0) (by omega) (by omega) ?_
        refine lv_aload_n hx hb dL_law_635 rfl (lv_at hl 2 rfl) ?_
        refine lv_aload_n hx hb dL_law_636 rfl (lv_at hl 0 rfl) ?_
        refine lv_iload_n hx hb dL_law_637 rfl (lv_at hl 3 rfl) ?_
        refine lv_iconst (v := (1 : Int32)) hx hb dL_law_638 (by decide) ?_
        refine lv_iadd hx hb dL_law_639 ?_
        obtain ⟨hi166, hq⟩ := hq
        refine va_sld hx hb hX hbl hbA hG.2 hi166 dL_law_640 ?_
        refine lv_aload_n hx hb dL_law_641 rfl (lv_at hl 0 rfl) ?_
        refine lv_iload_n hx hb dL_law_642 rfl (lv_at hl 3 rfl) ?_
        refine lv_iconst (v := (2 : Int32)) hx hb dL_law_643 (by decide) ?_
        refine lv_iadd hx hb dL_law_644 ?_
        obtain ⟨hi167, hq⟩ := hq
        refine va_sld hx hb hX hbl hbA hG.2 hi167 dL_law_645 ?_
        refine lv_aload_n hx hb dL_law_646 rfl (lv_at hl 0 rfl) ?_
        refine lv_iload_n hx hb dL_law_647 rfl (lv_at hl 3 rfl) ?_
        refine lv_iconst (v := (3 : Int32)) hx hb dL_law_648 (by decide) ?_
        refine lv_iadd hx hb dL_law_649 ?_
        obtain ⟨hi168, hq⟩ := hq
        refine va_sld hx hb hX hbl hbA hG.2 hi168 dL_law_650 ?_
        obtain ⟨ho171, hq⟩ := hq
        obtain ⟨hf172, hf172b, hq⟩ := hq
        refine r_fi (r_V (As := [.int (xs (i3 + (1 : Int32)).toNatClampNeg), .int (xs (i3 + (2 : Int32)).toNatClampNeg), .int (xs (i3 + (3 : Int32)).toNatClampNeg)]) (rest := [.int r163]) ⟨hx, hb, hml, hown, ht⟩ (kX7_alter E l σ162 a2 (xs (i3 + (1 : Int32)).toNatClampNeg) (xs (i3 + (2 : Int32)).toNatClampNeg) (xs (i3 + (3 : Int32)).toNatClampNeg) _ hq) mVX7_alter q_1055 rfl rfl ⟨Nat.le_of_ble_eq_true rfl, Nat.le_of_ble_eq_true rfl⟩ hO hG ho171 (cell_7 ho171.2.2) rfl rfl rfl hl.1 rfl (Nat.le_of_ble_eq_true rfl) dL_law_651 ⟨(by show _ ≤ 600000; omega), (by show _ ≤ 7302249; omega)⟩) hG (fun r170 σ169 H locs hq hG => ?_)
        obtain ⟨eNσ169, eZσ169, hq⟩ := hq
        have hm : sN σ0 ≤ sN σ169 ∧ sZ σ0 ≤ sZ σ169 := ⟨by omega, by omega⟩
        refine W.widen (k := sN σ169 - sN σ0) (n := sZ σ169 - sZ σ0) (by omega) (by omega) ?_
        refine lv_icmp_eq (tgt := 1430) hx hb dL_law_654 (by decide) (fun hc173 => ?_) (fun hc173 => ?_)
        · have hq := hq.1 hc173
          obtain ⟨y174, ey174⟩ : ∃ y : Int32, y = i3 + (7 : Int32) := ⟨_, rfl⟩
          have hq := hq y174 ey174
          refine lv_iinc (v := y174) (lv' := [(3, .int y174), (0, .ref (gA E 0)), (1, .ref (gA E a1)), (2, .ref (gA E a2))]) hx hb dL_law_1430 hl (k := 3) rfl (by rw [ey174]; rfl) (by decide) rfl (fun ls hl => ?_)
          refine lv_goto (tgt := 18) hx hb dL_law_1433 (by decide) ?_
          exact ih y174 σ169 hq hm H locs ls hG (lv_sub hl [1, 2, 3, 0] rfl)
        · have hq := hq.2 hc173
          refine lv_iconst (v := (0 : Int32)) hx hb dL_law_657 (by decide) ?_
          obtain ⟨hz1, hz2, hq⟩ := hq
          exact absurd hq (by decide)
      have hq := hq.2 hs158
      by_cases hs175 : (xs i3.toNatClampNeg &&& (63 : Int32)) = (10 : Int32)
      · have hq := hq.1 hs175
        refine lv_tableIn (off := 626) (tgt := 659) hx hb dL_law_33 (by rw [hs175]; decide) (by rw [hs175]; decide) (by rw [hs175]; rfl) (by decide) ?_
        refine lv_aload_n hx hb dL_law_659 rfl (lv_at hl 1 rfl) ?_
        refine lv_aload_n hx hb dL_law_660 rfl (lv_at hl 0 rfl) ?_
        refine lv_iload_n hx hb dL_law_661 rfl (lv_at hl 3 rfl) ?_
        refine lv_iconst (v := (1 : Int32)) hx hb dL_law_662 (by decide) ?_
        refine lv_iadd hx hb dL_law_663 ?_
        obtain ⟨hi176, hq⟩ := hq
        refine va_sld hx hb hX hbl hbA hG.2 hi176 dL_law_664 ?_
        refine lv_aload_n hx hb dL_law_665 rfl (lv_at hl 0 rfl) ?_
        refine lv_iload_n hx hb dL_law_666 rfl (lv_at hl 3 rfl) ?_
        refine lv_iconst (v := (2 : Int32)) hx hb dL_law_667 (by decide) ?_
        refine lv_iadd hx hb dL_law_668 ?_
        obtain ⟨hi177, hq⟩ := hq
        refine va_sld hx hb hX hbl hbA hG.2 hi177 dL_law_669 ?_
        obtain ⟨ho180, hq⟩ := hq
        obtain ⟨hf181, hf181b, hq⟩ := hq
        refine r_fi (r_V (As := [.int (xs (i3 + (1 : Int32)).toNatClampNeg), .int (xs (i3 + (2 : Int32)).toNatClampNeg)]) (rest := []) ⟨hx, hb, hml, hown, ht⟩ (kX6_income E l σ a1 (xs (i3 + (1 : Int32)).toNatClampNeg) (xs (i3 + (2 : Int32)).toNatClampNeg) _ hq) mVX6_income q_443 rfl rfl ⟨Nat.le_of_ble_eq_true rfl, Nat.le_of_ble_eq_true rfl⟩ hO hG ho180 (cell_6 ho180.2.2) rfl rfl rfl hl.1 rfl (Nat.le_of_ble_eq_true rfl) dL_law_670 ⟨(by show _ ≤ 600000; omega), (by show _ ≤ 7302249; omega)⟩) hG (fun r179 σ178 H locs hq hG => ?_)
        obtain ⟨eNσ178, eZσ178, hq⟩ := hq
        have hm : sN σ0 ≤ sN σ178 ∧ sZ σ0 ≤ sZ σ178 := ⟨by omega, by omega⟩
        refine W.widen (k := sN σ178 - sN σ0) (n := sZ σ178 - sZ σ0) (by omega) (by omega) ?_
        refine lv_aload_n hx hb dL_law_673 rfl (lv_at hl 2 rfl) ?_
        refine lv_aload_n hx hb dL_law_674 rfl (lv_at hl 0 rfl) ?_
        refine lv_iload_n hx hb dL_law_675 rfl (lv_at hl 3 rfl) ?_
        refine lv_iconst (v := (1 : Int32)) hx hb dL_law_676 (by decide) ?_
        refine lv_iadd hx hb dL_law_677 ?_
        obtain ⟨hi182, hq⟩ := hq
        refine va_sld hx hb hX hbl hbA hG.2 hi182 dL_law_678 ?_
        refine lv_aload_n hx hb dL_law_679 rfl (lv_at hl 0 rfl) ?_
        refine lv_iload_n hx hb dL_law_680 rfl (lv_at hl 3 rfl) ?_
        refine lv_iconst (v := (2 : Int32)) hx hb dL_law_681 (by decide) ?_
        refine lv_iadd hx hb dL_law_682 ?_
        obtain ⟨hi183, hq⟩ := hq
        refine va_sld hx hb hX hbl hbA hG.2 hi183 dL_law_683 ?_
        obtain ⟨ho186, hq⟩ := hq
        obtain ⟨hf187, hf187b, hq⟩ := hq
        refine r_fi (r_V (As := [.int (xs (i3 + (1 : Int32)).toNatClampNeg), .int (xs (i3 + (2 : Int32)).toNatClampNeg)]) (rest := [.int r179]) ⟨hx, hb, hml, hown, ht⟩ (kX7_income E l σ178 a2 (xs (i3 + (1 : Int32)).toNatClampNeg) (xs (i3 + (2 : Int32)).toNatClampNeg) _ hq) mVX7_income q_1060 rfl rfl ⟨Nat.le_of_ble_eq_true rfl, Nat.le_of_ble_eq_true rfl⟩ hO hG ho186 (cell_7 ho186.2.2) rfl rfl rfl hl.1 rfl (Nat.le_of_ble_eq_true rfl) dL_law_684 ⟨(by show _ ≤ 600000; omega), (by show _ ≤ 7302249; omega)⟩) hG (fun r185 σ184 H locs hq hG => ?_)
        obtain ⟨eNσ184, eZσ184, hq⟩ := hq
        have hm : sN σ0 ≤ sN σ184 ∧ sZ σ0 ≤ sZ σ184 := ⟨by omega, by omega⟩
        refine W.widen (k := sN σ184 - sN σ0) (n := sZ σ184 - sZ σ0) (by omega) (by omega) ?_
        refine lv_icmp_eq (tgt := 1430) hx hb dL_law_687 (by decide) (fun hc188 => ?_) (fun hc188 => ?_)
        · have hq := hq.1 hc188
          obtain ⟨y189, ey189⟩ : ∃ y : Int32, y = i3 + (7 : Int32) := ⟨_, rfl⟩
          have hq := hq y189 ey189
          refine lv_iinc (v := y189) (lv' := [(3, .int y189), (0, .ref (gA E 0)), (1, .ref (gA E a1)), (2, .ref (gA E a2))]) hx hb dL_law_1430 hl (k := 3) rfl (by rw [ey189]; rfl) (by decide) rfl (fun ls hl => ?_)
          refine lv_goto (tgt := 18) hx hb dL_law_1433 (by decide) ?_
          exact ih y189 σ184 hq hm H locs ls hG (lv_sub hl [1, 2, 3, 0] rfl)
        · have hq := hq.2 hc188
          refine lv_iconst (v := (0 : Int32)) hx hb dL_law_690 (by decide) ?_
          obtain ⟨hz1, hz2, hq⟩ := hq
          exact absurd hq (by decide)
      have hq := hq.2 hs175
      by_cases hs190 : (xs i3.toNatClampNeg &&& (63 : Int32)) = (11 : Int32)
      · have hq := hq.1 hs190
        refine lv_tableIn (off := 659) (tgt := 692) hx hb dL_law_33 (by rw [hs190]; decide) (by rw [hs190]; decide) (by rw [hs190]; rfl) (by decide) ?_
        refine lv_aload_n hx hb dL_law_692 rfl (lv_at hl 1 rfl) ?_
        refine lv_aload_n hx hb dL_law_693 rfl (lv_at hl 0 rfl) ?_
        refine lv_iload_n hx hb dL_law_694 rfl (lv_at hl 3 rfl) ?_
        refine lv_iconst (v := (1 : Int32)) hx hb dL_law_695 (by decide) ?_
        refine lv_iadd hx hb dL_law_696 ?_
        obtain ⟨hi191, hq⟩ := hq
        refine va_sld hx hb hX hbl hbA hG.2 hi191 dL_law_697 ?_
        refine lv_aload_n hx hb dL_law_698 rfl (lv_at hl 0 rfl) ?_
        refine lv_iload_n hx hb dL_law_699 rfl (lv_at hl 3 rfl) ?_
        refine lv_iconst (v := (2 : Int32)) hx hb dL_law_700 (by decide) ?_
        refine lv_iadd hx hb dL_law_701 ?_
        obtain ⟨hi192, hq⟩ := hq
        refine va_sld hx hb hX hbl hbA hG.2 hi192 dL_law_702 ?_
        obtain ⟨ho195, hq⟩ := hq
        obtain ⟨hf196, hf196b, hq⟩ := hq
        refine r_fi (r_V (As := [.int (xs (i3 + (1 : Int32)).toNatClampNeg), .int (xs (i3 + (2 : Int32)).toNatClampNeg)]) (rest := []) ⟨hx, hb, hml, hown, ht⟩ (kX6_ask E l σ a1 (xs (i3 + (1 : Int32)).toNatClampNeg) (xs (i3 + (2 : Int32)).toNatClampNeg) _ hq) mVX6_ask q_447 rfl rfl ⟨Nat.le_of_ble_eq_true rfl, Nat.le_of_ble_eq_true rfl⟩ hO hG ho195 (cell_6 ho195.2.2) rfl rfl rfl hl.1 rfl (Nat.le_of_ble_eq_true rfl) dL_law_703 ⟨(by show _ ≤ 600000; omega), (by show _ ≤ 7302249; omega)⟩) hG (fun r194 σ193 H locs hq hG => ?_)
        obtain ⟨eNσ193, eZσ193, hq⟩ := hq
        have hm : sN σ0 ≤ sN σ193 ∧ sZ σ0 ≤ sZ σ193 := ⟨by omega, by omega⟩
        refine W.widen (k := sN σ193 - sN σ0) (n := sZ σ193 - sZ σ0) (by omega) (by omega) ?_
        refine lv_aload_n hx hb dL_law_706 rfl (lv_at hl 2 rfl) ?_
        refine lv_aload_n hx hb dL_law_707 rfl (lv_at hl 0 rfl) ?_
        refine lv_iload_n hx hb dL_law_708 rfl (lv_at hl 3 rfl) ?_
        refine lv_iconst (v := (1 : Int32)) hx hb dL_law_709 (by decide) ?_
        refine lv_iadd hx hb dL_law_710 ?_
        obtain ⟨hi197, hq⟩ := hq
        refine va_sld hx hb hX hbl hbA hG.2 hi197 dL_law_711 ?_
        refine lv_aload_n hx hb dL_law_712 rfl (lv_at hl 0 rfl) ?_
        refine lv_iload_n hx hb dL_law_713 rfl (lv_at hl 3 rfl) ?_
        refine lv_iconst (v := (2 : Int32)) hx hb dL_law_714 (by decide) ?_
        refine lv_iadd hx hb dL_law_715 ?_
        obtain ⟨hi198, hq⟩ := hq
        refine va_sld hx hb hX hbl hbA hG.2 hi198 dL_law_716 ?_
        obtain ⟨ho201, hq⟩ := hq
        obtain ⟨hf202, hf202b, hq⟩ := hq
        refine r_fi (r_V (As := [.int (xs (i3 + (1 : Int32)).toNatClampNeg), .int (xs (i3 + (2 : Int32)).toNatClampNeg)]) (rest := [.int r194]) ⟨hx, hb, hml, hown, ht⟩ (kX7_ask E l σ193 a2 (xs (i3 + (1 : Int32)).toNatClampNeg) (xs (i3 + (2 : Int32)).toNatClampNeg) _ hq) mVX7_ask q_1065 rfl rfl ⟨Nat.le_of_ble_eq_true rfl, Nat.le_of_ble_eq_true rfl⟩ hO hG ho201 (cell_7 ho201.2.2) rfl rfl rfl hl.1 rfl (Nat.le_of_ble_eq_true rfl) dL_law_717 ⟨(by show _ ≤ 600000; omega), (by show _ ≤ 7302249; omega)⟩) hG (fun r200 σ199 H locs hq hG => ?_)
        obtain ⟨eNσ199, eZσ199, hq⟩ := hq
        have hm : sN σ0 ≤ sN σ199 ∧ sZ σ0 ≤ sZ σ199 := ⟨by omega, by omega⟩
        refine W.widen (k := sN σ199 - sN σ0) (n := sZ σ199 - sZ σ0) (by omega) (by omega) ?_
        refine lv_icmp_eq (tgt := 1430) hx hb dL_law_720 (by decide) (fun hc203 => ?_) (fun hc203 => ?_)
        · have hq := hq.1 hc203
          obtain ⟨y204, ey204⟩ : ∃ y : Int32, y = i3 + (7 : Int32) := ⟨_, rfl⟩
          have hq := hq y204 ey204
          refine lv_iinc (v := y204) (lv' := [(3, .int y204), (0, .ref (gA E 0)), (1, .ref (gA E a1)), (2, .ref (gA E a2))]) hx hb dL_law_1430 hl (k := 3) rfl (by rw [ey204]; rfl) (by decide) rfl (fun ls hl => ?_)
          refine lv_goto (tgt := 18) hx hb dL_law_1433 (by decide) ?_
          exact ih y204 σ199 hq hm H locs ls hG (lv_sub hl [1, 2, 3, 0] rfl)
        · have hq := hq.2 hc203
          refine lv_iconst (v := (0 : Int32)) hx hb dL_law_723 (by decide) ?_
          obtain ⟨hz1, hz2, hq⟩ := hq
          exact absurd hq (by decide)
      have hq := hq.2 hs190
      by_cases hs205 : (xs i3.toNatClampNeg &&& (63 : Int32)) = (12 : Int32)
      · have hq := hq.1 hs205
        refine lv_tableIn (off := 692) (tgt := 725) hx hb dL_law_33 (by rw [hs205]; decide) (by rw [hs205]; decide) (by rw [hs205]; rfl) (by decide) ?_
        refine lv_aload_n hx hb dL_law_725 rfl (lv_at hl 1 rfl) ?_
        refine lv_aload_n hx hb dL_law_726 rfl (lv_at hl 0 rfl) ?_
        refine lv_iload_n hx hb dL_law_727 rfl (lv_at hl 3 rfl) ?_
        refine lv_iconst (v := (1 : Int32)) hx hb dL_law_728 (by decide) ?_
        refine lv_iadd hx hb dL_law_729 ?_
        obtain ⟨hi206, hq⟩ := hq
        refine va_sld hx hb hX hbl hbA hG.2 hi206 dL_law_730 ?_
        refine lv_aload_n hx hb dL_law_731 rfl (lv_at hl 0 rfl) ?_
        refine lv_iload_n hx hb dL_law_732 rfl (lv_at hl 3 rfl) ?_
        refine lv_iconst (v := (2 : Int32)) hx hb dL_law_733 (by decide) ?_
        refine lv_iadd hx hb dL_law_734 ?_
        obtain ⟨hi207, hq⟩ := hq
        refine va_sld hx hb hX hbl hbA hG.2 hi207 dL_law_735 ?_
        obtain ⟨ho210, hq⟩ := hq
        obtain ⟨hf211, hf211b, hq⟩ := hq
        refine r_fi (r_V (As := [.int (xs (i3 + (1 : Int32)).toNatClampNeg), .int (xs (i3 + (2 : Int32)).toNatClampNeg)]) (rest := []) ⟨hx, hb, hml, hown, ht⟩ (kX6_feed E l σ a1 (xs (i3 + (1 : Int32)).toNatClampNeg) (xs (i3 + (2 : Int32)).toNatClampNeg) _ hq) mVX6_feed q_451 rfl rfl ⟨Nat.le_of_ble_eq_true rfl, Nat.le_of_ble_eq_true rfl⟩ hO hG ho210 (cell_6 ho210.2.2) rfl rfl rfl hl.1 rfl (Nat.le_of_ble_eq_true rfl) dL_law_736 ⟨(by show _ ≤ 600000; omega), (by show _ ≤ 7302249; omega)⟩) hG (fun r209 σ208 H locs hq hG => ?_)
        obtain ⟨eNσ208, eZσ208, hq⟩ := hq
        have hm : sN σ0 ≤ sN σ208 ∧ sZ σ0 ≤ sZ σ208 := ⟨by omega, by omega⟩
        refine W.widen (k := sN σ208 - sN σ0) (n := sZ σ208 - sZ σ0) (by omega) (by omega) ?_
        refine lv_aload_n hx hb dL_law_739 rfl (lv_at hl 2 rfl) ?_
        refine lv_aload_n hx hb dL_law_740 rfl (lv_at hl 0 rfl) ?_
        refine lv_iload_n hx hb dL_law_741 rfl (lv_at hl 3 rfl) ?_
        refine lv_iconst (v := (1 : Int32)) hx hb dL_law_742 (by decide) ?_
        refine lv_iadd hx hb dL_law_743 ?_
        obtain ⟨hi212, hq⟩ := hq
        refine va_sld hx hb hX hbl hbA hG.2 hi212 dL_law_744 ?_
        refine lv_aload_n hx hb dL_law_745 rfl (lv_at hl 0 rfl) ?_
        refine lv_iload_n hx hb dL_law_746 rfl (lv_at hl 3 rfl) ?_
        refine lv_iconst (v := (2 : Int32)) hx hb dL_law_747 (by decide) ?_
        refine lv_iadd hx hb dL_law_748 ?_
        obtain ⟨hi213, hq⟩ := hq
        refine va_sld hx hb hX hbl hbA hG.2 hi213 dL_law_749 ?_
        obtain ⟨ho216, hq⟩ := hq
        obtain ⟨hf217, hf217b, hq⟩ := hq
        refine r_fi (r_V (As := [.int (xs (i3 + (1 : Int32)).toNatClampNeg), .int (xs (i3 + (2 : Int32)).toNatClampNeg)]) (rest := [.int r209]) ⟨hx, hb, hml, hown, ht⟩ (kX7_feed E l σ208 a2 (xs (i3 + (1 : Int32)).toNatClampNeg) (xs (i3 + (2 : Int32)).toNatClampNeg) _ hq) mVX7_feed q_1072 rfl rfl ⟨Nat.le_of_ble_eq_true rfl, Nat.le_of_ble_eq_true rfl⟩ hO hG ho216 (cell_7 ho216.2.2) rfl rfl rfl hl.1 rfl (Nat.le_of_ble_eq_true rfl) dL_law_750 ⟨(by show _ ≤ 600000; omega), (by show _ ≤ 7302249; omega)⟩) hG (fun r215 σ214 H locs hq hG => ?_)
        obtain ⟨eNσ214, eZσ214, hq⟩ := hq
        have hm : sN σ0 ≤ sN σ214 ∧ sZ σ0 ≤ sZ σ214 := ⟨by omega, by omega⟩
        refine W.widen (k := sN σ214 - sN σ0) (n := sZ σ214 - sZ σ0) (by omega) (by omega) ?_
        refine lv_icmp_eq (tgt := 1430) hx hb dL_law_753 (by decide) (fun hc218 => ?_) (fun hc218 => ?_)
        · have hq := hq.1 hc218
          obtain ⟨y219, ey219⟩ : ∃ y : Int32, y = i3 + (7 : Int32) := ⟨_, rfl⟩
          have hq := hq y219 ey219
          refine lv_iinc (v := y219) (lv' := [(3, .int y219), (0, .ref (gA E 0)), (1, .ref (gA E a1)), (2, .ref (gA E a2))]) hx hb dL_law_1430 hl (k := 3) rfl (by rw [ey219]; rfl) (by decide) rfl (fun ls hl => ?_)
          refine lv_goto (tgt := 18) hx hb dL_law_1433 (by decide) ?_
          exact ih y219 σ214 hq hm H locs ls hG (lv_sub hl [1, 2, 3, 0] rfl)
        · have hq := hq.2 hc218
          refine lv_iconst (v := (0 : Int32)) hx hb dL_law_756 (by decide) ?_
          obtain ⟨hz1, hz2, hq⟩ := hq
          exact absurd hq (by decide)
      have hq := hq.2 hs205
      by_cases hs220 : (xs i3.toNatClampNeg &&& (63 : Int32)) = (13 : Int32)
      · have hq := hq.1 hs220
        refine lv_tableIn (off := 725) (tgt := 758) hx hb dL_law_33 (by rw [hs220]; decide) (by rw [hs220]; decide) (by rw [hs220]; rfl) (by decide) ?_
        refine lv_aload_n hx hb dL_law_758 rfl (lv_at hl 1 rfl) ?_
        obtain ⟨ho223, hq⟩ := hq
        obtain ⟨hf224, hf224b, hq⟩ := hq
        refine r_fi (r_V (As := []) (rest := []) ⟨hx, hb, hml, hown, ht⟩ (kX6_wipe E l σ a1 _ hq) mVX6_wipe q_467 rfl rfl ⟨Nat.le_of_ble_eq_true rfl, Nat.le_of_ble_eq_true rfl⟩ hO hG ho223 (cell_6 ho223.2.2) rfl rfl rfl hl.1 rfl (Nat.le_of_ble_eq_true rfl) dL_law_759 ⟨(by show _ ≤ 600000; omega), (by show _ ≤ 7302249; omega)⟩) hG (fun r222 σ221 H locs hq hG => ?_)
        obtain ⟨eNσ221, eZσ221, hq⟩ := hq
        have hm : sN σ0 ≤ sN σ221 ∧ sZ σ0 ≤ sZ σ221 := ⟨by omega, by omega⟩
        refine W.widen (k := sN σ221 - sN σ0) (n := sZ σ221 - sZ σ0) (by omega) (by omega) ?_
        refine lv_aload_n hx hb dL_law_762 rfl (lv_at hl 2 rfl) ?_
        obtain ⟨ho227, hq⟩ := hq
        obtain ⟨hf228, hf228b, hq⟩ := hq
        refine r_fi (r_V (As := []) (rest := [.int r222]) ⟨hx, hb, hml, hown, ht⟩ (kX7_wipe E l σ221 a2 _ hq) mVX7_wipe q_1076 rfl rfl ⟨Nat.le_of_ble_eq_true rfl, Nat.le_of_ble_eq_true rfl⟩ hO hG ho227 (cell_7 ho227.2.2) rfl rfl rfl hl.1 rfl (Nat.le_of_ble_eq_true rfl) dL_law_763 ⟨(by show _ ≤ 600000; omega), (by show _ ≤ 7302249; omega)⟩) hG (fun r226 σ225 H locs hq hG => ?_)
        obtain ⟨eNσ225, eZσ225, hq⟩ := hq
        have hm : sN σ0 ≤ sN σ225 ∧ sZ σ0 ≤ sZ σ225 := ⟨by omega, by omega⟩
        refine W.widen (k := sN σ225 - sN σ0) (n := sZ σ225 - sZ σ0) (by omega) (by omega) ?_
        refine lv_icmp_eq (tgt := 1430) hx hb dL_law_766 (by decide) (fun hc229 => ?_) (fun hc229 => ?_)
        · have hq := hq.1 hc229
          obtain ⟨y230, ey230⟩ : ∃ y : Int32, y = i3 + (7 : Int32) := ⟨_, rfl⟩
          have hq := hq y230 ey230
          refine lv_iinc (v := y230) (lv' := [(3, .int y230), (0, .ref (gA E 0)), (1, .ref (gA E a1)), (2, .ref (gA E a2))]) hx hb dL_law_1430 hl (k := 3) rfl (by rw [ey230]; rfl) (by decide) rfl (fun ls hl => ?_)
          refine lv_goto (tgt := 18) hx hb dL_law_1433 (by decide) ?_
          exact ih y230 σ225 hq hm H locs ls hG (lv_sub hl [1, 2, 3, 0] rfl)
        · have hq := hq.2 hc229
          refine lv_iconst (v := (0 : Int32)) hx hb dL_law_769 (by decide) ?_
          obtain ⟨hz1, hz2, hq⟩ := hq
          exact absurd hq (by decide)
      have hq := hq.2 hs220
      by_cases hs231 : (xs i3.toNatClampNeg &&& (63 : Int32)) = (14 : Int32)
      · have hq := hq.1 hs231
        refine lv_tableIn (off := 738) (tgt := 771) hx hb dL_law_33 (by rw [hs231]; decide) (by rw [hs231]; decide) (by rw [hs231]; rfl) (by decide) ?_
        refine lv_aload_n hx hb dL_law_771 rfl (lv_at hl 1 rfl) ?_
        obtain ⟨ho234, hq⟩ := hq
        obtain ⟨hf235, hf235b, hq⟩ := hq
        refine r_fi (r_V (As := []) (rest := []) ⟨hx, hb, hml, hown, ht⟩ (kX6_life E l σ a1 _ hq) mVX6_life q_475 rfl rfl ⟨Nat.le_of_ble_eq_true rfl, Nat.le_of_ble_eq_true rfl⟩ hO hG ho234 (cell_6 ho234.2.2) rfl rfl rfl hl.1 rfl (Nat.le_of_ble_eq_true rfl) dL_law_772 ⟨(by show _ ≤ 600000; omega), (by show _ ≤ 7302249; omega)⟩) hG (fun r233 σ232 H locs hq hG => ?_)
        obtain ⟨eNσ232, eZσ232, hq⟩ := hq
        have hm : sN σ0 ≤ sN σ232 ∧ sZ σ0 ≤ sZ σ232 := ⟨by omega, by omega⟩
        refine W.widen (k := sN σ232 - sN σ0) (n := sZ σ232 - sZ σ0) (by omega) (by omega) ?_
        refine lv_aload_n hx hb dL_law_775 rfl (lv_at hl 2 rfl) ?_
        obtain ⟨ho238, hq⟩ := hq
        obtain ⟨hf239, hf239b, hq⟩ := hq
        refine r_fi (r_V (As := []) (rest := [.int r233]) ⟨hx, hb, hml, hown, ht⟩ (kX7_life E l σ232 a2 _ hq) mVX7_life q_1080 rfl rfl ⟨Nat.le_of_ble_eq_true rfl, Nat.le_of_ble_eq_true rfl⟩ hO hG ho238 (cell_7 ho238.2.2) rfl rfl rfl hl.1 rfl (Nat.le_of_ble_eq_true rfl) dL_law_776 ⟨(by show _ ≤ 600000; omega), (by show _ ≤ 7302249; omega)⟩) hG (fun r237 σ236 H locs hq hG => ?_)
        obtain ⟨eNσ236, eZσ236, hq⟩ := hq
        have hm : sN σ0 ≤ sN σ236 ∧ sZ σ0 ≤ sZ σ236 := ⟨by omega, by omega⟩
        refine W.widen (k := sN σ236 - sN σ0) (n := sZ σ236 - sZ σ0) (by omega) (by omega) ?_
        refine lv_icmp_eq (tgt := 1430) hx hb dL_law_779 (by decide) (fun hc240 => ?_) (fun hc240 => ?_)
        · have hq := hq.1 hc240
          obtain ⟨y241, ey241⟩ : ∃ y : Int32, y = i3 + (7 : Int32) := ⟨_, rfl⟩
          have hq := hq y241 ey241
          refine lv_iinc (v := y241) (lv' := [(3, .int y241), (0, .ref (gA E 0)), (1, .ref (gA E a1)), (2, .ref (gA E a2))]) hx hb dL_law_1430 hl (k := 3) rfl (by rw [ey241]; rfl) (by decide) rfl (fun ls hl => ?_)
          refine lv_goto (tgt := 18) hx hb dL_law_1433 (by decide) ?_
          exact ih y241 σ236 hq hm H locs ls hG (lv_sub hl [1, 2, 3, 0] rfl)
        · have hq := hq.2 hc240
          refine lv_iconst (v := (0 : Int32)) hx hb dL_law_782 (by decide) ?_
          obtain ⟨hz1, hz2, hq⟩ := hq
          exact absurd hq (by decide)
      have hq := hq.2 hs231
      by_cases hs242 : (xs i3.toNatClampNeg &&& (63 : Int32)) = (15 : Int32)
      · have hq := hq.1 hs242
        refine lv_tableIn (off := 751) (tgt := 784) hx hb dL_law_33 (by rw [hs242]; decide) (by rw [hs242]; decide) (by rw [hs242]; rfl) (by decide) ?_
        refine lv_aload_n hx hb dL_law_784 rfl (lv_at hl 1 rfl) ?_
        refine lv_aload_n hx hb dL_law_785 rfl (lv_at hl 0 rfl) ?_
        refine lv_iload_n hx hb dL_law_786 rfl (lv_at hl 3 rfl) ?_
        refine lv_iconst (v := (1 : Int32)) hx hb dL_law_787 (by decide) ?_
        refine lv_iadd hx hb dL_law_788 ?_
        obtain ⟨hi243, hq⟩ := hq
        refine va_sld hx hb hX hbl hbA hG.2 hi243 dL_law_789 ?_
        obtain ⟨ho246, hq⟩ := hq
        obtain ⟨hf247, hf247b, hq⟩ := hq
        refine r_fi (r_V (As := [.int (xs (i3 + (1 : Int32)).toNatClampNeg)]) (rest := []) ⟨hx, hb, hml, hown, ht⟩ (kX6_grows E l σ a1 (xs (i3 + (1 : Int32)).toNatClampNeg) _ hq) mVX6_grows q_600 rfl rfl ⟨Nat.le_of_ble_eq_true rfl, Nat.le_of_ble_eq_true rfl⟩ hO hG ho246 (cell_6 ho246.2.2) rfl rfl rfl hl.1 rfl (Nat.le_of_ble_eq_true rfl) dL_law_790 ⟨(by show _ ≤ 600000; omega), (by show _ ≤ 7302249; omega)⟩) hG (fun r245 σ244 H locs hq hG => ?_)
        obtain ⟨eNσ244, eZσ244, hq⟩ := hq
        have hm : sN σ0 ≤ sN σ244 ∧ sZ σ0 ≤ sZ σ244 := ⟨by omega, by omega⟩
        refine W.widen (k := sN σ244 - sN σ0) (n := sZ σ244 - sZ σ0) (by omega) (by omega) ?_
        refine lv_aload_n hx hb dL_law_793 rfl (lv_at hl 2 rfl) ?_
        refine lv_aload_n hx hb dL_law_794 rfl (lv_at hl 0 rfl) ?_
        refine lv_iload_n hx hb dL_law_795 rfl (lv_at hl 3 rfl) ?_
        refine lv_iconst (v := (1 : Int32)) hx hb dL_law_796 (by decide) ?_
        refine lv_iadd hx hb dL_law_797 ?_
        obtain ⟨hi248, hq⟩ := hq
        refine va_sld hx hb hX hbl hbA hG.2 hi248 dL_law_798 ?_
        obtain ⟨ho251, hq⟩ := hq
        obtain ⟨hf252, hf252b, hq⟩ := hq
        refine r_fi (r_V (As := [.int (xs (i3 + (1 : Int32)).toNatClampNeg)]) (rest := [.int r245]) ⟨hx, hb, hml, hown, ht⟩ (kX7_grows E l σ244 a2 (xs (i3 + (1 : Int32)).toNatClampNeg) _ hq) mVX7_grows q_1136 rfl rfl ⟨Nat.le_of_ble_eq_true rfl, Nat.le_of_ble_eq_true rfl⟩ hO hG ho251 (cell_7 ho251.2.2) rfl rfl rfl hl.1 rfl (Nat.le_of_ble_eq_true rfl) dL_law_799 ⟨(by show _ ≤ 600000; omega), (by show _ ≤ 7302249; omega)⟩) hG (fun r250 σ249 H locs hq hG => ?_)
        obtain ⟨eNσ249, eZσ249, hq⟩ := hq
        have hm : sN σ0 ≤ sN σ249 ∧ sZ σ0 ≤ sZ σ249 := ⟨by omega, by omega⟩
        refine W.widen (k := sN σ249 - sN σ0) (n := sZ σ249 - sZ σ0) (by omega) (by omega) ?_
        refine lv_icmp_eq (tgt := 1430) hx hb dL_law_802 (by decide) (fun hc253 => ?_) (fun hc253 => ?_)
        · have hq := hq.1 hc253
          obtain ⟨y254, ey254⟩ : ∃ y : Int32, y = i3 + (7 : Int32) := ⟨_, rfl⟩
          have hq := hq y254 ey254
          refine lv_iinc (v := y254) (lv' := [(3, .int y254), (0, .ref (gA E 0)), (1, .ref (gA E a1)), (2, .ref (gA E a2))]) hx hb dL_law_1430 hl (k := 3) rfl (by rw [ey254]; rfl) (by decide) rfl (fun ls hl => ?_)
          refine lv_goto (tgt := 18) hx hb dL_law_1433 (by decide) ?_
          exact ih y254 σ249 hq hm H locs ls hG (lv_sub hl [1, 2, 3, 0] rfl)
        · have hq := hq.2 hc253
          refine lv_iconst (v := (0 : Int32)) hx hb dL_law_805 (by decide) ?_
          obtain ⟨hz1, hz2, hq⟩ := hq
          exact absurd hq (by decide)
      have hq := hq.2 hs242
      by_cases hs255 : (xs i3.toNatClampNeg &&& (63 : Int32)) = (16 : Int32)
      · have hq := hq.1 hs255
        refine lv_tableIn (off := 774) (tgt := 807) hx hb dL_law_33 (by rw [hs255]; decide) (by rw [hs255]; decide) (by rw [hs255]; rfl) (by decide) ?_
        refine lv_aload_n hx hb dL_law_807 rfl (lv_at hl 1 rfl) ?_
        refine lv_aload_n hx hb dL_law_808 rfl (lv_at hl 0 rfl) ?_
        refine lv_iload_n hx hb dL_law_809 rfl (lv_at hl 3 rfl) ?_
        refine lv_iconst (v := (1 : Int32)) hx hb dL_law_810 (by decide) ?_
        refine lv_iadd hx hb dL_law_811 ?_
        obtain ⟨hi256, hq⟩ := hq
        refine va_sld hx hb hX hbl hbA hG.2 hi256 dL_law_812 ?_
        obtain ⟨ho259, hq⟩ := hq
        obtain ⟨hf260, hf260b, hq⟩ := hq
        refine r_fi (r_V (As := [.int (xs (i3 + (1 : Int32)).toNatClampNeg)]) (rest := []) ⟨hx, hb, hml, hown, ht⟩ (kX6_bites E l σ a1 (xs (i3 + (1 : Int32)).toNatClampNeg) _ hq) mVX6_bites q_605 rfl rfl ⟨Nat.le_of_ble_eq_true rfl, Nat.le_of_ble_eq_true rfl⟩ hO hG ho259 (cell_6 ho259.2.2) rfl rfl rfl hl.1 rfl (Nat.le_of_ble_eq_true rfl) dL_law_813 ⟨(by show _ ≤ 600000; omega), (by show _ ≤ 7302249; omega)⟩) hG (fun r258 σ257 H locs hq hG => ?_)
        obtain ⟨eNσ257, eZσ257, hq⟩ := hq
        have hm : sN σ0 ≤ sN σ257 ∧ sZ σ0 ≤ sZ σ257 := ⟨by omega, by omega⟩
        refine W.widen (k := sN σ257 - sN σ0) (n := sZ σ257 - sZ σ0) (by omega) (by omega) ?_
        refine lv_aload_n hx hb dL_law_816 rfl (lv_at hl 2 rfl) ?_
        refine lv_aload_n hx hb dL_law_817 rfl (lv_at hl 0 rfl) ?_
        refine lv_iload_n hx hb dL_law_818 rfl (lv_at hl 3 rfl) ?_
        refine lv_iconst (v := (1 : Int32)) hx hb dL_law_819 (by decide) ?_
        refine lv_iadd hx hb dL_law_820 ?_
        obtain ⟨hi261, hq⟩ := hq
        refine va_sld hx hb hX hbl hbA hG.2 hi261 dL_law_821 ?_
        obtain ⟨ho264, hq⟩ := hq
        obtain ⟨hf265, hf265b, hq⟩ := hq
        refine r_fi (r_V (As := [.int (xs (i3 + (1 : Int32)).toNatClampNeg)]) (rest := [.int r258]) ⟨hx, hb, hml, hown, ht⟩ (kX7_bites E l σ257 a2 (xs (i3 + (1 : Int32)).toNatClampNeg) _ hq) mVX7_bites q_1140 rfl rfl ⟨Nat.le_of_ble_eq_true rfl, Nat.le_of_ble_eq_true rfl⟩ hO hG ho264 (cell_7 ho264.2.2) rfl rfl rfl hl.1 rfl (Nat.le_of_ble_eq_true rfl) dL_law_822 ⟨(by show _ ≤ 600000; omega), (by show _ ≤ 7302249; omega)⟩) hG (fun r263 σ262 H locs hq hG => ?_)
        obtain ⟨eNσ262, eZσ262, hq⟩ := hq
        have hm : sN σ0 ≤ sN σ262 ∧ sZ σ0 ≤ sZ σ262 := ⟨by omega, by omega⟩
        refine W.widen (k := sN σ262 - sN σ0) (n := sZ σ262 - sZ σ0) (by omega) (by omega) ?_
        refine lv_icmp_eq (tgt := 1430) hx hb dL_law_825 (by decide) (fun hc266 => ?_) (fun hc266 => ?_)
        · have hq := hq.1 hc266
          obtain ⟨y267, ey267⟩ : ∃ y : Int32, y = i3 + (7 : Int32) := ⟨_, rfl⟩
          have hq := hq y267 ey267
          refine lv_iinc (v := y267) (lv' := [(3, .int y267), (0, .ref (gA E 0)), (1, .ref (gA E a1)), (2, .ref (gA E a2))]) hx hb dL_law_1430 hl (k := 3) rfl (by rw [ey267]; rfl) (by decide) rfl (fun ls hl => ?_)
          refine lv_goto (tgt := 18) hx hb dL_law_1433 (by decide) ?_
          exact ih y267 σ262 hq hm H locs ls hG (lv_sub hl [1, 2, 3, 0] rfl)
        · have hq := hq.2 hc266
          refine lv_iconst (v := (0 : Int32)) hx hb dL_law_828 (by decide) ?_
          obtain ⟨hz1, hz2, hq⟩ := hq
          exact absurd hq (by decide)
      have hq := hq.2 hs255
      by_cases hs268 : (xs i3.toNatClampNeg &&& (63 : Int32)) = (17 : Int32)
      · have hq := hq.1 hs268
        refine lv_tableIn (off := 797) (tgt := 830) hx hb dL_law_33 (by rw [hs268]; decide) (by rw [hs268]; decide) (by rw [hs268]; rfl) (by decide) ?_
        refine lv_aload_n hx hb dL_law_830 rfl (lv_at hl 1 rfl) ?_
        refine lv_aload_n hx hb dL_law_831 rfl (lv_at hl 0 rfl) ?_
        refine lv_iload_n hx hb dL_law_832 rfl (lv_at hl 3 rfl) ?_
        refine lv_iconst (v := (1 : Int32)) hx hb dL_law_833 (by decide) ?_
        refine lv_iadd hx hb dL_law_834 ?_
        obtain ⟨hi269, hq⟩ := hq
        refine va_sld hx hb hX hbl hbA hG.2 hi269 dL_law_835 ?_
        refine lv_aload_n hx hb dL_law_836 rfl (lv_at hl 0 rfl) ?_
        refine lv_iload_n hx hb dL_law_837 rfl (lv_at hl 3 rfl) ?_
        refine lv_iconst (v := (2 : Int32)) hx hb dL_law_838 (by decide) ?_
        refine lv_iadd hx hb dL_law_839 ?_
        obtain ⟨hi270, hq⟩ := hq
        refine va_sld hx hb hX hbl hbA hG.2 hi270 dL_law_840 ?_
        obtain ⟨ho273, hq⟩ := hq
        obtain ⟨hf274, hf274b, hq⟩ := hq
        refine r_fi (r_V (As := [.int (xs (i3 + (1 : Int32)).toNatClampNeg), .int (xs (i3 + (2 : Int32)).toNatClampNeg)]) (rest := []) ⟨hx, hb, hml, hown, ht⟩ (kX6_pays E l σ a1 (xs (i3 + (1 : Int32)).toNatClampNeg) (xs (i3 + (2 : Int32)).toNatClampNeg) _ hq) mVX6_pays q_622 rfl rfl ⟨Nat.le_of_ble_eq_true rfl, Nat.le_of_ble_eq_true rfl⟩ hO hG ho273 (cell_6 ho273.2.2) rfl rfl rfl hl.1 rfl (Nat.le_of_ble_eq_true rfl) dL_law_841 ⟨(by show _ ≤ 600000; omega), (by show _ ≤ 7302249; omega)⟩) hG (fun r272 σ271 H locs hq hG => ?_)
        obtain ⟨eNσ271, eZσ271, hq⟩ := hq
        have hm : sN σ0 ≤ sN σ271 ∧ sZ σ0 ≤ sZ σ271 := ⟨by omega, by omega⟩
        refine W.widen (k := sN σ271 - sN σ0) (n := sZ σ271 - sZ σ0) (by omega) (by omega) ?_
        refine lv_aload_n hx hb dL_law_844 rfl (lv_at hl 2 rfl) ?_
        refine lv_aload_n hx hb dL_law_845 rfl (lv_at hl 0 rfl) ?_
        refine lv_iload_n hx hb dL_law_846 rfl (lv_at hl 3 rfl) ?_
        refine lv_iconst (v := (1 : Int32)) hx hb dL_law_847 (by decide) ?_
        refine lv_iadd hx hb dL_law_848 ?_
        obtain ⟨hi275, hq⟩ := hq
        refine va_sld hx hb hX hbl hbA hG.2 hi275 dL_law_849 ?_
        refine lv_aload_n hx hb dL_law_850 rfl (lv_at hl 0 rfl) ?_
        refine lv_iload_n hx hb dL_law_851 rfl (lv_at hl 3 rfl) ?_
        refine lv_iconst (v := (2 : Int32)) hx hb dL_law_852 (by decide) ?_
        refine lv_iadd hx hb dL_law_853 ?_
        obtain ⟨hi276, hq⟩ := hq
        refine va_sld hx hb hX hbl hbA hG.2 hi276 dL_law_854 ?_
        obtain ⟨ho279, hq⟩ := hq
        obtain ⟨hf280, hf280b, hq⟩ := hq
        refine r_fi (r_V (As := [.int (xs (i3 + (1 : Int32)).toNatClampNeg), .int (xs (i3 + (2 : Int32)).toNatClampNeg)]) (rest := [.int r272]) ⟨hx, hb, hml, hown, ht⟩ (kX7_pays E l σ271 a2 (xs (i3 + (1 : Int32)).toNatClampNeg) (xs (i3 + (2 : Int32)).toNatClampNeg) _ hq) mVX7_pays q_1144 rfl rfl ⟨Nat.le_of_ble_eq_true rfl, Nat.le_of_ble_eq_true rfl⟩ hO hG ho279 (cell_7 ho279.2.2) rfl rfl rfl hl.1 rfl (Nat.le_of_ble_eq_true rfl) dL_law_855 ⟨(by show _ ≤ 600000; omega), (by show _ ≤ 7302249; omega)⟩) hG (fun r278 σ277 H locs hq hG => ?_)
        obtain ⟨eNσ277, eZσ277, hq⟩ := hq
        have hm : sN σ0 ≤ sN σ277 ∧ sZ σ0 ≤ sZ σ277 := ⟨by omega, by omega⟩
        refine W.widen (k := sN σ277 - sN σ0) (n := sZ σ277 - sZ σ0) (by omega) (by omega) ?_
        refine lv_icmp_eq (tgt := 1430) hx hb dL_law_858 (by decide) (fun hc281 => ?_) (fun hc281 => ?_)
        · have hq := hq.1 hc281
          obtain ⟨y282, ey282⟩ : ∃ y : Int32, y = i3 + (7 : Int32) := ⟨_, rfl⟩
          have hq := hq y282 ey282
          refine lv_iinc (v := y282) (lv' := [(3, .int y282), (0, .ref (gA E 0)), (1, .ref (gA E a1)), (2, .ref (gA E a2))]) hx hb dL_law_1430 hl (k := 3) rfl (by rw [ey282]; rfl) (by decide) rfl (fun ls hl => ?_)
          refine lv_goto (tgt := 18) hx hb dL_law_1433 (by decide) ?_
          exact ih y282 σ277 hq hm H locs ls hG (lv_sub hl [1, 2, 3, 0] rfl)
        · have hq := hq.2 hc281
          refine lv_iconst (v := (0 : Int32)) hx hb dL_law_861 (by decide) ?_
          obtain ⟨hz1, hz2, hq⟩ := hq
          exact absurd hq (by decide)
      have hq := hq.2 hs268
      by_cases hs283 : (xs i3.toNatClampNeg &&& (63 : Int32)) = (18 : Int32)
      · have hq := hq.1 hs283
        refine lv_tableIn (off := 830) (tgt := 863) hx hb dL_law_33 (by rw [hs283]; decide) (by rw [hs283]; decide) (by rw [hs283]; rfl) (by decide) ?_
        refine lv_aload_n hx hb dL_law_863 rfl (lv_at hl 1 rfl) ?_
        refine lv_aload_n hx hb dL_law_864 rfl (lv_at hl 0 rfl) ?_
        refine lv_iload_n hx hb dL_law_865 rfl (lv_at hl 3 rfl) ?_
        refine lv_iconst (v := (1 : Int32)) hx hb dL_law_866 (by decide) ?_
        refine lv_iadd hx hb dL_law_867 ?_
        obtain ⟨hi284, hq⟩ := hq
        refine va_sld hx hb hX hbl hbA hG.2 hi284 dL_law_868 ?_
        refine lv_aload_n hx hb dL_law_869 rfl (lv_at hl 0 rfl) ?_
        refine lv_iload_n hx hb dL_law_870 rfl (lv_at hl 3 rfl) ?_
        refine lv_iconst (v := (2 : Int32)) hx hb dL_law_871 (by decide) ?_
        refine lv_iadd hx hb dL_law_872 ?_
        obtain ⟨hi285, hq⟩ := hq
        refine va_sld hx hb hX hbl hbA hG.2 hi285 dL_law_873 ?_
        obtain ⟨ho288, hq⟩ := hq
        obtain ⟨hf289, hf289b, hq⟩ := hq
        refine r_fi (r_V (As := [.int (xs (i3 + (1 : Int32)).toNatClampNeg), .int (xs (i3 + (2 : Int32)).toNatClampNeg)]) (rest := []) ⟨hx, hb, hml, hown, ht⟩ (kX6_weeks E l σ a1 (xs (i3 + (1 : Int32)).toNatClampNeg) (xs (i3 + (2 : Int32)).toNatClampNeg) _ hq) mVX6_weeks q_648 rfl rfl ⟨Nat.le_of_ble_eq_true rfl, Nat.le_of_ble_eq_true rfl⟩ hO hG ho288 (cell_6 ho288.2.2) rfl rfl rfl hl.1 rfl (Nat.le_of_ble_eq_true rfl) dL_law_874 ⟨(by show _ ≤ 600000; omega), (by show _ ≤ 7302249; omega)⟩) hG (fun r287 σ286 H locs hq hG => ?_)
        obtain ⟨eNσ286, eZσ286, hq⟩ := hq
        have hm : sN σ0 ≤ sN σ286 ∧ sZ σ0 ≤ sZ σ286 := ⟨by omega, by omega⟩
        refine W.widen (k := sN σ286 - sN σ0) (n := sZ σ286 - sZ σ0) (by omega) (by omega) ?_
        refine lv_aload_n hx hb dL_law_877 rfl (lv_at hl 2 rfl) ?_
        refine lv_aload_n hx hb dL_law_878 rfl (lv_at hl 0 rfl) ?_
        refine lv_iload_n hx hb dL_law_879 rfl (lv_at hl 3 rfl) ?_
        refine lv_iconst (v := (1 : Int32)) hx hb dL_law_880 (by decide) ?_
        refine lv_iadd hx hb dL_law_881 ?_
        obtain ⟨hi290, hq⟩ := hq
        refine va_sld hx hb hX hbl hbA hG.2 hi290 dL_law_882 ?_
        refine lv_aload_n hx hb dL_law_883 rfl (lv_at hl 0 rfl) ?_
        refine lv_iload_n hx hb dL_law_884 rfl (lv_at hl 3 rfl) ?_
        refine lv_iconst (v := (2 : Int32)) hx hb dL_law_885 (by decide) ?_
        refine lv_iadd hx hb dL_law_886 ?_
        obtain ⟨hi291, hq⟩ := hq
        refine va_sld hx hb hX hbl hbA hG.2 hi291 dL_law_887 ?_
        obtain ⟨ho294, hq⟩ := hq
        obtain ⟨hf295, hf295b, hq⟩ := hq
        refine r_fi (r_V (As := [.int (xs (i3 + (1 : Int32)).toNatClampNeg), .int (xs (i3 + (2 : Int32)).toNatClampNeg)]) (rest := [.int r287]) ⟨hx, hb, hml, hown, ht⟩ (kX7_weeks E l σ286 a2 (xs (i3 + (1 : Int32)).toNatClampNeg) (xs (i3 + (2 : Int32)).toNatClampNeg) _ hq) mVX7_weeks q_1156 rfl rfl ⟨Nat.le_of_ble_eq_true rfl, Nat.le_of_ble_eq_true rfl⟩ hO hG ho294 (cell_7 ho294.2.2) rfl rfl rfl hl.1 rfl (Nat.le_of_ble_eq_true rfl) dL_law_888 ⟨(by show _ ≤ 600000; omega), (by show _ ≤ 7302249; omega)⟩) hG (fun r293 σ292 H locs hq hG => ?_)
        obtain ⟨eNσ292, eZσ292, hq⟩ := hq
        have hm : sN σ0 ≤ sN σ292 ∧ sZ σ0 ≤ sZ σ292 := ⟨by omega, by omega⟩
        refine W.widen (k := sN σ292 - sN σ0) (n := sZ σ292 - sZ σ0) (by omega) (by omega) ?_
        refine lv_icmp_eq (tgt := 1430) hx hb dL_law_891 (by decide) (fun hc296 => ?_) (fun hc296 => ?_)
        · have hq := hq.1 hc296
          obtain ⟨y297, ey297⟩ : ∃ y : Int32, y = i3 + (7 : Int32) := ⟨_, rfl⟩
          have hq := hq y297 ey297
          refine lv_iinc (v := y297) (lv' := [(3, .int y297), (0, .ref (gA E 0)), (1, .ref (gA E a1)), (2, .ref (gA E a2))]) hx hb dL_law_1430 hl (k := 3) rfl (by rw [ey297]; rfl) (by decide) rfl (fun ls hl => ?_)
          refine lv_goto (tgt := 18) hx hb dL_law_1433 (by decide) ?_
          exact ih y297 σ292 hq hm H locs ls hG (lv_sub hl [1, 2, 3, 0] rfl)
        · have hq := hq.2 hc296
          refine lv_iconst (v := (0 : Int32)) hx hb dL_law_894 (by decide) ?_
          obtain ⟨hz1, hz2, hq⟩ := hq
          exact absurd hq (by decide)
      have hq := hq.2 hs283
      by_cases hs298 : (xs i3.toNatClampNeg &&& (63 : Int32)) = (19 : Int32)
      · have hq := hq.1 hs298
        refine lv_tableIn (off := 863) (tgt := 896) hx hb dL_law_33 (by rw [hs298]; decide) (by rw [hs298]; decide) (by rw [hs298]; rfl) (by decide) ?_
        refine lv_aload_n hx hb dL_law_896 rfl (lv_at hl 1 rfl) ?_
        refine lv_aload_n hx hb dL_law_897 rfl (lv_at hl 0 rfl) ?_
        refine lv_iload_n hx hb dL_law_898 rfl (lv_at hl 3 rfl) ?_
        refine lv_iconst (v := (1 : Int32)) hx hb dL_law_899 (by decide) ?_
        refine lv_iadd hx hb dL_law_900 ?_
        obtain ⟨hi299, hq⟩ := hq
        refine va_sld hx hb hX hbl hbA hG.2 hi299 dL_law_901 ?_
        obtain ⟨ho302, hq⟩ := hq
        obtain ⟨hf303, hf303b, hq⟩ := hq
        refine r_fi (r_V (As := [.int (xs (i3 + (1 : Int32)).toNatClampNeg)]) (rest := []) ⟨hx, hb, hml, hown, ht⟩ (kX6_pay E l σ a1 (xs (i3 + (1 : Int32)).toNatClampNeg) _ hq) mVX6_pay q_668 rfl rfl ⟨Nat.le_of_ble_eq_true rfl, Nat.le_of_ble_eq_true rfl⟩ hO hG ho302 (cell_6 ho302.2.2) rfl rfl rfl hl.1 rfl (Nat.le_of_ble_eq_true rfl) dL_law_902 ⟨(by show _ ≤ 600000; omega), (by show _ ≤ 7302249; omega)⟩) hG (fun r301 σ300 H locs hq hG => ?_)
        obtain ⟨eNσ300, eZσ300, hq⟩ := hq
        have hm : sN σ0 ≤ sN σ300 ∧ sZ σ0 ≤ sZ σ300 := ⟨by omega, by omega⟩
        refine W.widen (k := sN σ300 - sN σ0) (n := sZ σ300 - sZ σ0) (by omega) (by omega) ?_
        refine lv_aload_n hx hb dL_law_905 rfl (lv_at hl 2 rfl) ?_
        refine lv_aload_n hx hb dL_law_906 rfl (lv_at hl 0 rfl) ?_
        refine lv_iload_n hx hb dL_law_907 rfl (lv_at hl 3 rfl) ?_
        refine lv_iconst (v := (1 : Int32)) hx hb dL_law_908 (by decide) ?_
        refine lv_iadd hx hb dL_law_909 ?_
        obtain ⟨hi304, hq⟩ := hq
        refine va_sld hx hb hX hbl hbA hG.2 hi304 dL_law_910 ?_
        obtain ⟨ho307, hq⟩ := hq
        obtain ⟨hf308, hf308b, hq⟩ := hq
        refine r_fi (r_V (As := [.int (xs (i3 + (1 : Int32)).toNatClampNeg)]) (rest := [.int r301]) ⟨hx, hb, hml, hown, ht⟩ (kX7_pay E l σ300 a2 (xs (i3 + (1 : Int32)).toNatClampNeg) _ hq) mVX7_pay q_1170 rfl rfl ⟨Nat.le_of_ble_eq_true rfl, Nat.le_of_ble_eq_true rfl⟩ hO hG ho307 (cell_7 ho307.2.2) rfl rfl rfl hl.1 rfl (Nat.le_of_ble_eq_true rfl) dL_law_911 ⟨(by show _ ≤ 600000; omega), (by show _ ≤ 7302249; omega)⟩) hG (fun r306 σ305 H locs hq hG => ?_)
        obtain ⟨eNσ305, eZσ305, hq⟩ := hq
        have hm : sN σ0 ≤ sN σ305 ∧ sZ σ0 ≤ sZ σ305 := ⟨by omega, by omega⟩
        refine W.widen (k := sN σ305 - sN σ0) (n := sZ σ305 - sZ σ0) (by omega) (by omega) ?_
        refine lv_icmp_eq (tgt := 1430) hx hb dL_law_914 (by decide) (fun hc309 => ?_) (fun hc309 => ?_)
        · have hq := hq.1 hc309
          obtain ⟨y310, ey310⟩ : ∃ y : Int32, y = i3 + (7 : Int32) := ⟨_, rfl⟩
          have hq := hq y310 ey310
          refine lv_iinc (v := y310) (lv' := [(3, .int y310), (0, .ref (gA E 0)), (1, .ref (gA E a1)), (2, .ref (gA E a2))]) hx hb dL_law_1430 hl (k := 3) rfl (by rw [ey310]; rfl) (by decide) rfl (fun ls hl => ?_)
          refine lv_goto (tgt := 18) hx hb dL_law_1433 (by decide) ?_
          exact ih y310 σ305 hq hm H locs ls hG (lv_sub hl [1, 2, 3, 0] rfl)
        · have hq := hq.2 hc309
          refine lv_iconst (v := (0 : Int32)) hx hb dL_law_917 (by decide) ?_
          obtain ⟨hz1, hz2, hq⟩ := hq
          exact absurd hq (by decide)
      have hq := hq.2 hs298
      by_cases hs311 : (xs i3.toNatClampNeg &&& (63 : Int32)) = (20 : Int32)
      · have hq := hq.1 hs311
        refine lv_tableIn (off := 886) (tgt := 919) hx hb dL_law_33 (by rw [hs311]; decide) (by rw [hs311]; decide) (by rw [hs311]; rfl) (by decide) ?_
        refine lv_aload_n hx hb dL_law_919 rfl (lv_at hl 1 rfl) ?_
        refine lv_aload_n hx hb dL_law_920 rfl (lv_at hl 0 rfl) ?_
        refine lv_iload_n hx hb dL_law_921 rfl (lv_at hl 3 rfl) ?_
        refine lv_iconst (v := (1 : Int32)) hx hb dL_law_922 (by decide) ?_
        refine lv_iadd hx hb dL_law_923 ?_
        obtain ⟨hi312, hq⟩ := hq
        refine va_sld hx hb hX hbl hbA hG.2 hi312 dL_law_924 ?_
        obtain ⟨ho315, hq⟩ := hq
        obtain ⟨hf316, hf316b, hq⟩ := hq
        refine r_fi (r_V (As := [.int (xs (i3 + (1 : Int32)).toNatClampNeg)]) (rest := []) ⟨hx, hb, hml, hown, ht⟩ (kX6_judge E l σ a1 (xs (i3 + (1 : Int32)).toNatClampNeg) _ hq) mVX6_judge q_677 rfl rfl ⟨Nat.le_of_ble_eq_true rfl, Nat.le_of_ble_eq_true rfl⟩ hO hG ho315 (cell_6 ho315.2.2) rfl rfl rfl hl.1 rfl (Nat.le_of_ble_eq_true rfl) dL_law_925 ⟨(by show _ ≤ 600000; omega), (by show _ ≤ 7302249; omega)⟩) hG (fun r314 σ313 H locs hq hG => ?_)
        obtain ⟨eNσ313, eZσ313, hq⟩ := hq
        have hm : sN σ0 ≤ sN σ313 ∧ sZ σ0 ≤ sZ σ313 := ⟨by omega, by omega⟩
        refine W.widen (k := sN σ313 - sN σ0) (n := sZ σ313 - sZ σ0) (by omega) (by omega) ?_
        refine lv_aload_n hx hb dL_law_928 rfl (lv_at hl 2 rfl) ?_
        refine lv_aload_n hx hb dL_law_929 rfl (lv_at hl 0 rfl) ?_
        refine lv_iload_n hx hb dL_law_930 rfl (lv_at hl 3 rfl) ?_
        refine lv_iconst (v := (1 : Int32)) hx hb dL_law_931 (by decide) ?_
        refine lv_iadd hx hb dL_law_932 ?_
        obtain ⟨hi317, hq⟩ := hq
        refine va_sld hx hb hX hbl hbA hG.2 hi317 dL_law_933 ?_
        obtain ⟨ho320, hq⟩ := hq
        obtain ⟨hf321, hf321b, hq⟩ := hq
        refine r_fi (r_V (As := [.int (xs (i3 + (1 : Int32)).toNatClampNeg)]) (rest := [.int r314]) ⟨hx, hb, hml, hown, ht⟩ (kX7_judge E l σ313 a2 (xs (i3 + (1 : Int32)).toNatClampNeg) _ hq) mVX7_judge q_1182 rfl rfl ⟨Nat.le_of_ble_eq_true rfl, Nat.le_of_ble_eq_true rfl⟩ hO hG ho320 (cell_7 ho320.2.2) rfl rfl rfl hl.1 rfl (Nat.le_of_ble_eq_true rfl) dL_law_934 ⟨(by show _ ≤ 600000; omega), (by show _ ≤ 7302249; omega)⟩) hG (fun r319 σ318 H locs hq hG => ?_)
        obtain ⟨eNσ318, eZσ318, hq⟩ := hq
        have hm : sN σ0 ≤ sN σ318 ∧ sZ σ0 ≤ sZ σ318 := ⟨by omega, by omega⟩
        refine W.widen (k := sN σ318 - sN σ0) (n := sZ σ318 - sZ σ0) (by omega) (by omega) ?_
        refine lv_icmp_eq (tgt := 1430) hx hb dL_law_937 (by decide) (fun hc322 => ?_) (fun hc322 => ?_)
        · have hq := hq.1 hc322
          obtain ⟨y323, ey323⟩ : ∃ y : Int32, y = i3 + (7 : Int32) := ⟨_, rfl⟩
          have hq := hq y323 ey323
          refine lv_iinc (v := y323) (lv' := [(3, .int y323), (0, .ref (gA E 0)), (1, .ref (gA E a1)), (2, .ref (gA E a2))]) hx hb dL_law_1430 hl (k := 3) rfl (by rw [ey323]; rfl) (by decide) rfl (fun ls hl => ?_)
          refine lv_goto (tgt := 18) hx hb dL_law_1433 (by decide) ?_
          exact ih y323 σ318 hq hm H locs ls hG (lv_sub hl [1, 2, 3, 0] rfl)
        · have hq := hq.2 hc322
          refine lv_iconst (v := (0 : Int32)) hx hb dL_law_940 (by decide) ?_
          obtain ⟨hz1, hz2, hq⟩ := hq
          exact absurd hq (by decide)
      have hq := hq.2 hs311
      by_cases hs324 : (xs i3.toNatClampNeg &&& (63 : Int32)) = (21 : Int32)
      · have hq := hq.1 hs324
        refine lv_tableIn (off := 909) (tgt := 942) hx hb dL_law_33 (by rw [hs324]; decide) (by rw [hs324]; decide) (by rw [hs324]; rfl) (by decide) ?_
        refine lv_aload_n hx hb dL_law_942 rfl (lv_at hl 1 rfl) ?_
        refine lv_aload_n hx hb dL_law_943 rfl (lv_at hl 0 rfl) ?_
        refine lv_iload_n hx hb dL_law_944 rfl (lv_at hl 3 rfl) ?_
        refine lv_iconst (v := (1 : Int32)) hx hb dL_law_945 (by decide) ?_
        refine lv_iadd hx hb dL_law_946 ?_
        obtain ⟨hi325, hq⟩ := hq
        refine va_sld hx hb hX hbl hbA hG.2 hi325 dL_law_947 ?_
        refine lv_aload_n hx hb dL_law_948 rfl (lv_at hl 0 rfl) ?_
        refine lv_iload_n hx hb dL_law_949 rfl (lv_at hl 3 rfl) ?_
        refine lv_iconst (v := (2 : Int32)) hx hb dL_law_950 (by decide) ?_
        refine lv_iadd hx hb dL_law_951 ?_
        obtain ⟨hi326, hq⟩ := hq
        refine va_sld hx hb hX hbl hbA hG.2 hi326 dL_law_952 ?_
        refine lv_aload_n hx hb dL_law_953 rfl (lv_at hl 0 rfl) ?_
        refine lv_iload_n hx hb dL_law_954 rfl (lv_at hl 3 rfl) ?_
        refine lv_iconst (v := (3 : Int32)) hx hb dL_law_955 (by decide) ?_
        refine lv_iadd hx hb dL_law_956 ?_
        obtain ⟨hi327, hq⟩ := hq
        refine va_sld hx hb hX hbl hbA hG.2 hi327 dL_law_957 ?_
        obtain ⟨ho330, hq⟩ := hq
        obtain ⟨hf331, hf331b, hq⟩ := hq
        refine r_fi (r_V (As := [.int (xs (i3 + (1 : Int32)).toNatClampNeg), .int (xs (i3 + (2 : Int32)).toNatClampNeg), .int (xs (i3 + (3 : Int32)).toNatClampNeg)]) (rest := []) ⟨hx, hb, hml, hown, ht⟩ (kX6_run E l σ a1 (xs (i3 + (1 : Int32)).toNatClampNeg) (xs (i3 + (2 : Int32)).toNatClampNeg) (xs (i3 + (3 : Int32)).toNatClampNeg) _ hq) mVX6_run q_681 rfl rfl ⟨Nat.le_of_ble_eq_true rfl, Nat.le_of_ble_eq_true rfl⟩ hO hG ho330 (cell_6 ho330.2.2) rfl rfl rfl hl.1 rfl (Nat.le_of_ble_eq_true rfl) dL_law_958 ⟨(by show _ ≤ 600000; omega), (by show _ ≤ 7302249; omega)⟩) hG (fun r329 σ328 H locs hq hG => ?_)
        obtain ⟨eNσ328, eZσ328, hq⟩ := hq
        have hm : sN σ0 ≤ sN σ328 ∧ sZ σ0 ≤ sZ σ328 := ⟨by omega, by omega⟩
        refine W.widen (k := sN σ328 - sN σ0) (n := sZ σ328 - sZ σ0) (by omega) (by omega) ?_
        refine lv_aload_n hx hb dL_law_961 rfl (lv_at hl 2 rfl) ?_
        refine lv_aload_n hx hb dL_law_962 rfl (lv_at hl 0 rfl) ?_
        refine lv_iload_n hx hb dL_law_963 rfl (lv_at hl 3 rfl) ?_
        refine lv_iconst (v := (1 : Int32)) hx hb dL_law_964 (by decide) ?_
        refine lv_iadd hx hb dL_law_965 ?_
        obtain ⟨hi332, hq⟩ := hq
        refine va_sld hx hb hX hbl hbA hG.2 hi332 dL_law_966 ?_
        refine lv_aload_n hx hb dL_law_967 rfl (lv_at hl 0 rfl) ?_
        refine lv_iload_n hx hb dL_law_968 rfl (lv_at hl 3 rfl) ?_
        refine lv_iconst (v := (2 : Int32)) hx hb dL_law_969 (by decide) ?_
        refine lv_iadd hx hb dL_law_970 ?_
        obtain ⟨hi333, hq⟩ := hq
        refine va_sld hx hb hX hbl hbA hG.2 hi333 dL_law_971 ?_
        refine lv_aload_n hx hb dL_law_972 rfl (lv_at hl 0 rfl) ?_
        refine lv_iload_n hx hb dL_law_973 rfl (lv_at hl 3 rfl) ?_
        refine lv_iconst (v := (3 : Int32)) hx hb dL_law_974 (by decide) ?_
        refine lv_iadd hx hb dL_law_975 ?_
        obtain ⟨hi334, hq⟩ := hq
        refine va_sld hx hb hX hbl hbA hG.2 hi334 dL_law_976 ?_
        obtain ⟨ho337, hq⟩ := hq
        obtain ⟨lm338, lm338a, lm338b, lm338c, lm338d, hq⟩ := hq
        refine r_fi (r_V (As := [.int (xs (i3 + (1 : Int32)).toNatClampNeg), .int (xs (i3 + (2 : Int32)).toNatClampNeg), .int (xs (i3 + (3 : Int32)).toNatClampNeg)]) (rest := [.int r329]) ⟨hx, hb, hml, hown, ht⟩ (kX7_run E l lm338 σ328 a2 (xs (i3 + (1 : Int32)).toNatClampNeg) (xs (i3 + (2 : Int32)).toNatClampNeg) (xs (i3 + (3 : Int32)).toNatClampNeg) _ hq) mVX7_run q_1186 rfl rfl ⟨Nat.le_of_ble_eq_true rfl, Nat.le_of_ble_eq_true rfl⟩ hO hG ho337 (cell_7 ho337.2.2) rfl rfl rfl hl.1 rfl (Nat.le_of_ble_eq_true rfl) dL_law_977 ⟨(by show _ ≤ 600000; omega), (by show _ ≤ 7302249; omega)⟩) hG (fun r336 σ335 H locs hq hG => ?_)
        obtain ⟨eNσ335, eZσ335, hq⟩ := hq
        have hm : sN σ0 ≤ sN σ335 ∧ sZ σ0 ≤ sZ σ335 := ⟨by omega, by omega⟩
        refine W.widen (k := sN σ335 - sN σ0) (n := sZ σ335 - sZ σ0) (by omega) (by omega) ?_
        refine lv_icmp_eq (tgt := 1430) hx hb dL_law_980 (by decide) (fun hc339 => ?_) (fun hc339 => ?_)
        · have hq := hq.1 hc339
          obtain ⟨y340, ey340⟩ : ∃ y : Int32, y = i3 + (7 : Int32) := ⟨_, rfl⟩
          have hq := hq y340 ey340
          refine lv_iinc (v := y340) (lv' := [(3, .int y340), (0, .ref (gA E 0)), (1, .ref (gA E a1)), (2, .ref (gA E a2))]) hx hb dL_law_1430 hl (k := 3) rfl (by rw [ey340]; rfl) (by decide) rfl (fun ls hl => ?_)
          refine lv_goto (tgt := 18) hx hb dL_law_1433 (by decide) ?_
          exact ih y340 σ335 hq hm H locs ls hG (lv_sub hl [1, 2, 3, 0] rfl)
        · have hq := hq.2 hc339
          refine lv_iconst (v := (0 : Int32)) hx hb dL_law_983 (by decide) ?_
          obtain ⟨hz1, hz2, hq⟩ := hq
          exact absurd hq (by decide)
      have hq := hq.2 hs324
      by_cases hs341 : (xs i3.toNatClampNeg &&& (63 : Int32)) = (22 : Int32)
      · have hq := hq.1 hs341
        refine lv_tableIn (off := 952) (tgt := 985) hx hb dL_law_33 (by rw [hs341]; decide) (by rw [hs341]; decide) (by rw [hs341]; rfl) (by decide) ?_
        refine lv_aload_n hx hb dL_law_985 rfl (lv_at hl 1 rfl) ?_
        refine lv_aload_n hx hb dL_law_986 rfl (lv_at hl 0 rfl) ?_
        refine lv_iload_n hx hb dL_law_987 rfl (lv_at hl 3 rfl) ?_
        refine lv_iconst (v := (1 : Int32)) hx hb dL_law_988 (by decide) ?_
        refine lv_iadd hx hb dL_law_989 ?_
        obtain ⟨hi342, hq⟩ := hq
        refine va_sld hx hb hX hbl hbA hG.2 hi342 dL_law_990 ?_
        obtain ⟨ho345, hq⟩ := hq
        obtain ⟨hf346, hf346b, hq⟩ := hq
        refine r_fi (r_V (As := [.int (xs (i3 + (1 : Int32)).toNatClampNeg)]) (rest := []) ⟨hx, hb, hml, hown, ht⟩ (kX6_head E l σ a1 (xs (i3 + (1 : Int32)).toNatClampNeg) _ hq) mVX6_head q_715 rfl rfl ⟨Nat.le_of_ble_eq_true rfl, Nat.le_of_ble_eq_true rfl⟩ hO hG ho345 (cell_6 ho345.2.2) rfl rfl rfl hl.1 rfl (Nat.le_of_ble_eq_true rfl) dL_law_991 ⟨(by show _ ≤ 600000; omega), (by show _ ≤ 7302249; omega)⟩) hG (fun r344 σ343 H locs hq hG => ?_)
        obtain ⟨eNσ343, eZσ343, hq⟩ := hq
        have hm : sN σ0 ≤ sN σ343 ∧ sZ σ0 ≤ sZ σ343 := ⟨by omega, by omega⟩
        refine W.widen (k := sN σ343 - sN σ0) (n := sZ σ343 - sZ σ0) (by omega) (by omega) ?_
        refine lv_aload_n hx hb dL_law_994 rfl (lv_at hl 2 rfl) ?_
        refine lv_aload_n hx hb dL_law_995 rfl (lv_at hl 0 rfl) ?_
        refine lv_iload_n hx hb dL_law_996 rfl (lv_at hl 3 rfl) ?_
        refine lv_iconst (v := (1 : Int32)) hx hb dL_law_997 (by decide) ?_
        refine lv_iadd hx hb dL_law_998 ?_
        obtain ⟨hi347, hq⟩ := hq
        refine va_sld hx hb hX hbl hbA hG.2 hi347 dL_law_999 ?_
        obtain ⟨ho350, hq⟩ := hq
        obtain ⟨lm351, lm351a, lm351b, lm351c, lm351d, hq⟩ := hq
        refine r_fi (r_V (As := [.int (xs (i3 + (1 : Int32)).toNatClampNeg)]) (rest := [.int r344]) ⟨hx, hb, hml, hown, ht⟩ (kX7_head E l lm351 σ343 a2 (xs (i3 + (1 : Int32)).toNatClampNeg) _ hq) mVX7_head q_1216 rfl rfl ⟨Nat.le_of_ble_eq_true rfl, Nat.le_of_ble_eq_true rfl⟩ hO hG ho350 (cell_7 ho350.2.2) rfl rfl rfl hl.1 rfl (Nat.le_of_ble_eq_true rfl) dL_law_1000 ⟨(by show _ ≤ 600000; omega), (by show _ ≤ 7302249; omega)⟩) hG (fun r349 σ348 H locs hq hG => ?_)
        obtain ⟨eNσ348, eZσ348, hq⟩ := hq
        have hm : sN σ0 ≤ sN σ348 ∧ sZ σ0 ≤ sZ σ348 := ⟨by omega, by omega⟩
        refine W.widen (k := sN σ348 - sN σ0) (n := sZ σ348 - sZ σ0) (by omega) (by omega) ?_
        refine lv_icmp_eq (tgt := 1430) hx hb dL_law_1003 (by decide) (fun hc352 => ?_) (fun hc352 => ?_)
        · have hq := hq.1 hc352
          obtain ⟨y353, ey353⟩ : ∃ y : Int32, y = i3 + (7 : Int32) := ⟨_, rfl⟩
          have hq := hq y353 ey353
          refine lv_iinc (v := y353) (lv' := [(3, .int y353), (0, .ref (gA E 0)), (1, .ref (gA E a1)), (2, .ref (gA E a2))]) hx hb dL_law_1430 hl (k := 3) rfl (by rw [ey353]; rfl) (by decide) rfl (fun ls hl => ?_)
          refine lv_goto (tgt := 18) hx hb dL_law_1433 (by decide) ?_
          exact ih y353 σ348 hq hm H locs ls hG (lv_sub hl [1, 2, 3, 0] rfl)
        · have hq := hq.2 hc352
          refine lv_iconst (v := (0 : Int32)) hx hb dL_law_1006 (by decide) ?_
          obtain ⟨hz1, hz2, hq⟩ := hq
          exact absurd hq (by decide)
      have hq := hq.2 hs341
      by_cases hs354 : (xs i3.toNatClampNeg &&& (63 : Int32)) = (23 : Int32)
      · have hq := hq.1 hs354
        refine lv_tableIn (off := 975) (tgt := 1008) hx hb dL_law_33 (by rw [hs354]; decide) (by rw [hs354]; decide) (by rw [hs354]; rfl) (by decide) ?_
        refine lv_aload_n hx hb dL_law_1008 rfl (lv_at hl 1 rfl) ?_
        refine lv_aload_n hx hb dL_law_1009 rfl (lv_at hl 0 rfl) ?_
        refine lv_iload_n hx hb dL_law_1010 rfl (lv_at hl 3 rfl) ?_
        refine lv_iconst (v := (1 : Int32)) hx hb dL_law_1011 (by decide) ?_
        refine lv_iadd hx hb dL_law_1012 ?_
        obtain ⟨hi355, hq⟩ := hq
        refine va_sld hx hb hX hbl hbA hG.2 hi355 dL_law_1013 ?_
        refine lv_aload_n hx hb dL_law_1014 rfl (lv_at hl 0 rfl) ?_
        refine lv_iload_n hx hb dL_law_1015 rfl (lv_at hl 3 rfl) ?_
        refine lv_iconst (v := (2 : Int32)) hx hb dL_law_1016 (by decide) ?_
        refine lv_iadd hx hb dL_law_1017 ?_
        obtain ⟨hi356, hq⟩ := hq
        refine va_sld hx hb hX hbl hbA hG.2 hi356 dL_law_1018 ?_
        obtain ⟨ho359, hq⟩ := hq
        obtain ⟨hf360, hf360b, hq⟩ := hq
        refine r_fi (r_V (As := [.int (xs (i3 + (1 : Int32)).toNatClampNeg), .int (xs (i3 + (2 : Int32)).toNatClampNeg)]) (rest := []) ⟨hx, hb, hml, hown, ht⟩ (kX6_best E l σ a1 (xs (i3 + (1 : Int32)).toNatClampNeg) (xs (i3 + (2 : Int32)).toNatClampNeg) _ hq) mVX6_best q_719 rfl rfl ⟨Nat.le_of_ble_eq_true rfl, Nat.le_of_ble_eq_true rfl⟩ hO hG ho359 (cell_6 ho359.2.2) rfl rfl rfl hl.1 rfl (Nat.le_of_ble_eq_true rfl) dL_law_1019 ⟨(by show _ ≤ 600000; omega), (by show _ ≤ 7302249; omega)⟩) hG (fun r358 σ357 H locs hq hG => ?_)
        obtain ⟨eNσ357, eZσ357, hq⟩ := hq
        have hm : sN σ0 ≤ sN σ357 ∧ sZ σ0 ≤ sZ σ357 := ⟨by omega, by omega⟩
        refine W.widen (k := sN σ357 - sN σ0) (n := sZ σ357 - sZ σ0) (by omega) (by omega) ?_
        refine lv_aload_n hx hb dL_law_1022 rfl (lv_at hl 2 rfl) ?_
        refine lv_aload_n hx hb dL_law_1023 rfl (lv_at hl 0 rfl) ?_
        refine lv_iload_n hx hb dL_law_1024 rfl (lv_at hl 3 rfl) ?_
        refine lv_iconst (v := (1 : Int32)) hx hb dL_law_1025 (by decide) ?_
        refine lv_iadd hx hb dL_law_1026 ?_
        obtain ⟨hi361, hq⟩ := hq
        refine va_sld hx hb hX hbl hbA hG.2 hi361 dL_law_1027 ?_
        refine lv_aload_n hx hb dL_law_1028 rfl (lv_at hl 0 rfl) ?_
        refine lv_iload_n hx hb dL_law_1029 rfl (lv_at hl 3 rfl) ?_
        refine lv_iconst (v := (2 : Int32)) hx hb dL_law_1030 (by decide) ?_
        refine lv_iadd hx hb dL_law_1031 ?_
        obtain ⟨hi362, hq⟩ := hq
        refine va_sld hx hb hX hbl hbA hG.2 hi362 dL_law_1032 ?_
        obtain ⟨ho365, hq⟩ := hq
        obtain ⟨lm366, lm366a, lm366b, lm366c, lm366d, hq⟩ := hq
        refine r_fi (r_V (As := [.int (xs (i3 + (1 : Int32)).toNatClampNeg), .int (xs (i3 + (2 : Int32)).toNatClampNeg)]) (rest := [.int r358]) ⟨hx, hb, hml, hown, ht⟩ (kX7_best E l lm366 σ357 a2 (xs (i3 + (1 : Int32)).toNatClampNeg) (xs (i3 + (2 : Int32)).toNatClampNeg) _ hq) mVX7_best q_1220 rfl rfl ⟨Nat.le_of_ble_eq_true rfl, Nat.le_of_ble_eq_true rfl⟩ hO hG ho365 (cell_7 ho365.2.2) rfl rfl rfl hl.1 rfl (Nat.le_of_ble_eq_true rfl) dL_law_1033 ⟨(by show _ ≤ 600000; omega), (by show _ ≤ 7302249; omega)⟩) hG (fun r364 σ363 H locs hq hG => ?_)
        obtain ⟨eNσ363, eZσ363, hq⟩ := hq
        have hm : sN σ0 ≤ sN σ363 ∧ sZ σ0 ≤ sZ σ363 := ⟨by omega, by omega⟩
        refine W.widen (k := sN σ363 - sN σ0) (n := sZ σ363 - sZ σ0) (by omega) (by omega) ?_
        refine lv_icmp_eq (tgt := 1430) hx hb dL_law_1036 (by decide) (fun hc367 => ?_) (fun hc367 => ?_)
        · have hq := hq.1 hc367
          obtain ⟨y368, ey368⟩ : ∃ y : Int32, y = i3 + (7 : Int32) := ⟨_, rfl⟩
          have hq := hq y368 ey368
          refine lv_iinc (v := y368) (lv' := [(3, .int y368), (0, .ref (gA E 0)), (1, .ref (gA E a1)), (2, .ref (gA E a2))]) hx hb dL_law_1430 hl (k := 3) rfl (by rw [ey368]; rfl) (by decide) rfl (fun ls hl => ?_)
          refine lv_goto (tgt := 18) hx hb dL_law_1433 (by decide) ?_
          exact ih y368 σ363 hq hm H locs ls hG (lv_sub hl [1, 2, 3, 0] rfl)
        · have hq := hq.2 hc367
          refine lv_iconst (v := (0 : Int32)) hx hb dL_law_1039 (by decide) ?_
          obtain ⟨hz1, hz2, hq⟩ := hq
          exact absurd hq (by decide)
      have hq := hq.2 hs354
      by_cases hs369 : (xs i3.toNatClampNeg &&& (63 : Int32)) = (24 : Int32)
      · have hq := hq.1 hs369
        refine lv_tableIn (off := 1008) (tgt := 1041) hx hb dL_law_33 (by rw [hs369]; decide) (by rw [hs369]; decide) (by rw [hs369]; rfl) (by decide) ?_
        refine lv_aload_n hx hb dL_law_1041 rfl (lv_at hl 1 rfl) ?_
        refine lv_aload_n hx hb dL_law_1042 rfl (lv_at hl 0 rfl) ?_
        refine lv_iload_n hx hb dL_law_1043 rfl (lv_at hl 3 rfl) ?_
        refine lv_iconst (v := (1 : Int32)) hx hb dL_law_1044 (by decide) ?_
        refine lv_iadd hx hb dL_law_1045 ?_
        obtain ⟨hi370, hq⟩ := hq
        refine va_sld hx hb hX hbl hbA hG.2 hi370 dL_law_1046 ?_
        refine lv_aload_n hx hb dL_law_1047 rfl (lv_at hl 0 rfl) ?_
        refine lv_iload_n hx hb dL_law_1048 rfl (lv_at hl 3 rfl) ?_
        refine lv_iconst (v := (2 : Int32)) hx hb dL_law_1049 (by decide) ?_
        refine lv_iadd hx hb dL_law_1050 ?_
        obtain ⟨hi371, hq⟩ := hq
        refine va_sld hx hb hX hbl hbA hG.2 hi371 dL_law_1051 ?_
        obtain ⟨ho374, hq⟩ := hq
        obtain ⟨hf375, hf375b, hq⟩ := hq
        refine r_fi (r_V (As := [.int (xs (i3 + (1 : Int32)).toNatClampNeg), .int (xs (i3 + (2 : Int32)).toNatClampNeg)]) (rest := []) ⟨hx, hb, hml, hown, ht⟩ (kX6_lose E l σ a1 (xs (i3 + (1 : Int32)).toNatClampNeg) (xs (i3 + (2 : Int32)).toNatClampNeg) _ hq) mVX6_lose q_762 rfl rfl ⟨Nat.le_of_ble_eq_true rfl, Nat.le_of_ble_eq_true rfl⟩ hO hG ho374 (cell_6 ho374.2.2) rfl rfl rfl hl.1 rfl (Nat.le_of_ble_eq_true rfl) dL_law_1052 ⟨(by show _ ≤ 600000; omega), (by show _ ≤ 7302249; omega)⟩) hG (fun r373 σ372 H locs hq hG => ?_)
        obtain ⟨eNσ372, eZσ372, hq⟩ := hq
        have hm : sN σ0 ≤ sN σ372 ∧ sZ σ0 ≤ sZ σ372 := ⟨by omega, by omega⟩
        refine W.widen (k := sN σ372 - sN σ0) (n := sZ σ372 - sZ σ0) (by omega) (by omega) ?_
        refine lv_aload_n hx hb dL_law_1055 rfl (lv_at hl 2 rfl) ?_
        refine lv_aload_n hx hb dL_law_1056 rfl (lv_at hl 0 rfl) ?_
        refine lv_iload_n hx hb dL_law_1057 rfl (lv_at hl 3 rfl) ?_
        refine lv_iconst (v := (1 : Int32)) hx hb dL_law_1058 (by decide) ?_
        refine lv_iadd hx hb dL_law_1059 ?_
        obtain ⟨hi376, hq⟩ := hq
        refine va_sld hx hb hX hbl hbA hG.2 hi376 dL_law_1060 ?_
        refine lv_aload_n hx hb dL_law_1061 rfl (lv_at hl 0 rfl) ?_
        refine lv_iload_n hx hb dL_law_1062 rfl (lv_at hl 3 rfl) ?_
        refine lv_iconst (v := (2 : Int32)) hx hb dL_law_1063 (by decide) ?_
        refine lv_iadd hx hb dL_law_1064 ?_
        obtain ⟨hi377, hq⟩ := hq
        refine va_sld hx hb hX hbl hbA hG.2 hi377 dL_law_1065 ?_
        obtain ⟨ho380, hq⟩ := hq
        obtain ⟨lm381, lm381a, lm381b, lm381c, lm381d, hq⟩ := hq
        refine r_fi (r_V (As := [.int (xs (i3 + (1 : Int32)).toNatClampNeg), .int (xs (i3 + (2 : Int32)).toNatClampNeg)]) (rest := [.int r373]) ⟨hx, hb, hml, hown, ht⟩ (kX7_lose E l lm381 σ372 a2 (xs (i3 + (1 : Int32)).toNatClampNeg) (xs (i3 + (2 : Int32)).toNatClampNeg) _ hq) mVX7_lose q_1241 rfl rfl ⟨Nat.le_of_ble_eq_true rfl, Nat.le_of_ble_eq_true rfl⟩ hO hG ho380 (cell_7 ho380.2.2) rfl rfl rfl hl.1 rfl (Nat.le_of_ble_eq_true rfl) dL_law_1066 ⟨(by show _ ≤ 600000; omega), (by show _ ≤ 7302249; omega)⟩) hG (fun r379 σ378 H locs hq hG => ?_)
        obtain ⟨eNσ378, eZσ378, hq⟩ := hq
        have hm : sN σ0 ≤ sN σ378 ∧ sZ σ0 ≤ sZ σ378 := ⟨by omega, by omega⟩
        refine W.widen (k := sN σ378 - sN σ0) (n := sZ σ378 - sZ σ0) (by omega) (by omega) ?_
        refine lv_icmp_eq (tgt := 1430) hx hb dL_law_1069 (by decide) (fun hc382 => ?_) (fun hc382 => ?_)
        · have hq := hq.1 hc382
          obtain ⟨y383, ey383⟩ : ∃ y : Int32, y = i3 + (7 : Int32) := ⟨_, rfl⟩
          have hq := hq y383 ey383
          refine lv_iinc (v := y383) (lv' := [(3, .int y383), (0, .ref (gA E 0)), (1, .ref (gA E a1)), (2, .ref (gA E a2))]) hx hb dL_law_1430 hl (k := 3) rfl (by rw [ey383]; rfl) (by decide) rfl (fun ls hl => ?_)
          refine lv_goto (tgt := 18) hx hb dL_law_1433 (by decide) ?_
          exact ih y383 σ378 hq hm H locs ls hG (lv_sub hl [1, 2, 3, 0] rfl)
        · have hq := hq.2 hc382
          refine lv_iconst (v := (0 : Int32)) hx hb dL_law_1072 (by decide) ?_
          obtain ⟨hz1, hz2, hq⟩ := hq
          exact absurd hq (by decide)
      have hq := hq.2 hs369
      by_cases hs384 : (xs i3.toNatClampNeg &&& (63 : Int32)) = (25 : Int32)
      · have hq := hq.1 hs384
        refine lv_tableIn (off := 1041) (tgt := 1074) hx hb dL_law_33 (by rw [hs384]; decide) (by rw [hs384]; decide) (by rw [hs384]; rfl) (by decide) ?_
        refine lv_aload_n hx hb dL_law_1074 rfl (lv_at hl 1 rfl) ?_
        refine lv_aload_n hx hb dL_law_1075 rfl (lv_at hl 0 rfl) ?_
        refine lv_iload_n hx hb dL_law_1076 rfl (lv_at hl 3 rfl) ?_
        refine lv_iconst (v := (1 : Int32)) hx hb dL_law_1077 (by decide) ?_
        refine lv_iadd hx hb dL_law_1078 ?_
        obtain ⟨hi385, hq⟩ := hq
        refine va_sld hx hb hX hbl hbA hG.2 hi385 dL_law_1079 ?_
        obtain ⟨ho388, hq⟩ := hq
        obtain ⟨hf389, hf389b, hq⟩ := hq
        refine r_fi (r_V (As := [.int (xs (i3 + (1 : Int32)).toNatClampNeg)]) (rest := []) ⟨hx, hb, hml, hown, ht⟩ (kX6_write E l σ a1 (xs (i3 + (1 : Int32)).toNatClampNeg) _ hq) mVX6_write q_766 rfl rfl ⟨Nat.le_of_ble_eq_true rfl, Nat.le_of_ble_eq_true rfl⟩ hO hG ho388 (cell_6 ho388.2.2) rfl rfl rfl hl.1 rfl (Nat.le_of_ble_eq_true rfl) dL_law_1080 ⟨(by show _ ≤ 600000; omega), (by show _ ≤ 7302249; omega)⟩) hG (fun r387 σ386 H locs hq hG => ?_)
        obtain ⟨eNσ386, eZσ386, hq⟩ := hq
        have hm : sN σ0 ≤ sN σ386 ∧ sZ σ0 ≤ sZ σ386 := ⟨by omega, by omega⟩
        refine W.widen (k := sN σ386 - sN σ0) (n := sZ σ386 - sZ σ0) (by omega) (by omega) ?_
        refine lv_aload_n hx hb dL_law_1083 rfl (lv_at hl 2 rfl) ?_
        refine lv_aload_n hx hb dL_law_1084 rfl (lv_at hl 0 rfl) ?_
        refine lv_iload_n hx hb dL_law_1085 rfl (lv_at hl 3 rfl) ?_
        refine lv_iconst (v := (1 : Int32)) hx hb dL_law_1086 (by decide) ?_
        refine lv_iadd hx hb dL_law_1087 ?_
        obtain ⟨hi390, hq⟩ := hq
        refine va_sld hx hb hX hbl hbA hG.2 hi390 dL_law_1088 ?_
        obtain ⟨ho393, hq⟩ := hq
        obtain ⟨hf394, hf394b, hq⟩ := hq
        refine r_fi (r_V (As := [.int (xs (i3 + (1 : Int32)).toNatClampNeg)]) (rest := [.int r387]) ⟨hx, hb, hml, hown, ht⟩ (kX7_write E l σ386 a2 (xs (i3 + (1 : Int32)).toNatClampNeg) _ hq) mVX7_write q_1245 rfl rfl ⟨Nat.le_of_ble_eq_true rfl, Nat.le_of_ble_eq_true rfl⟩ hO hG ho393 (cell_7 ho393.2.2) rfl rfl rfl hl.1 rfl (Nat.le_of_ble_eq_true rfl) dL_law_1089 ⟨(by show _ ≤ 600000; omega), (by show _ ≤ 7302249; omega)⟩) hG (fun r392 σ391 H locs hq hG => ?_)
        obtain ⟨eNσ391, eZσ391, hq⟩ := hq
        have hm : sN σ0 ≤ sN σ391 ∧ sZ σ0 ≤ sZ σ391 := ⟨by omega, by omega⟩
        refine W.widen (k := sN σ391 - sN σ0) (n := sZ σ391 - sZ σ0) (by omega) (by omega) ?_
        refine lv_icmp_eq (tgt := 1430) hx hb dL_law_1092 (by decide) (fun hc395 => ?_) (fun hc395 => ?_)
        · have hq := hq.1 hc395
          obtain ⟨y396, ey396⟩ : ∃ y : Int32, y = i3 + (7 : Int32) := ⟨_, rfl⟩
          have hq := hq y396 ey396
          refine lv_iinc (v := y396) (lv' := [(3, .int y396), (0, .ref (gA E 0)), (1, .ref (gA E a1)), (2, .ref (gA E a2))]) hx hb dL_law_1430 hl (k := 3) rfl (by rw [ey396]; rfl) (by decide) rfl (fun ls hl => ?_)
          refine lv_goto (tgt := 18) hx hb dL_law_1433 (by decide) ?_
          exact ih y396 σ391 hq hm H locs ls hG (lv_sub hl [1, 2, 3, 0] rfl)
        · have hq := hq.2 hc395
          refine lv_iconst (v := (0 : Int32)) hx hb dL_law_1095 (by decide) ?_
          obtain ⟨hz1, hz2, hq⟩ := hq
          exact absurd hq (by decide)
      have hq := hq.2 hs384
      by_cases hs397 : (xs i3.toNatClampNeg &&& (63 : Int32)) = (26 : Int32)
      · have hq := hq.1 hs397
        refine lv_tableIn (off := 1064) (tgt := 1097) hx hb dL_law_33 (by rw [hs397]; decide) (by rw [hs397]; decide) (by rw [hs397]; rfl) (by decide) ?_
        refine lv_aload_n hx hb dL_law_1097 rfl (lv_at hl 1 rfl) ?_
        refine lv_aload_n hx hb dL_law_1098 rfl (lv_at hl 0 rfl) ?_
        refine lv_iload_n hx hb dL_law_1099 rfl (lv_at hl 3 rfl) ?_
        refine lv_iconst (v := (1 : Int32)) hx hb dL_law_1100 (by decide) ?_
        refine lv_iadd hx hb dL_law_1101 ?_
        obtain ⟨hi398, hq⟩ := hq
        refine va_sld hx hb hX hbl hbA hG.2 hi398 dL_law_1102 ?_
        refine lv_aload_n hx hb dL_law_1103 rfl (lv_at hl 0 rfl) ?_
        refine lv_iload_n hx hb dL_law_1104 rfl (lv_at hl 3 rfl) ?_
        refine lv_iconst (v := (2 : Int32)) hx hb dL_law_1105 (by decide) ?_
        refine lv_iadd hx hb dL_law_1106 ?_
        obtain ⟨hi399, hq⟩ := hq
        refine va_sld hx hb hX hbl hbA hG.2 hi399 dL_law_1107 ?_
        obtain ⟨ho402, hq⟩ := hq
        obtain ⟨hf403, hf403b, hq⟩ := hq
        refine r_fi (r_V (As := [.int (xs (i3 + (1 : Int32)).toNatClampNeg), .int (xs (i3 + (2 : Int32)).toNatClampNeg)]) (rest := []) ⟨hx, hb, hml, hown, ht⟩ (kX6_quiet E l σ a1 (xs (i3 + (1 : Int32)).toNatClampNeg) (xs (i3 + (2 : Int32)).toNatClampNeg) _ hq) mVX6_quiet q_778 rfl rfl ⟨Nat.le_of_ble_eq_true rfl, Nat.le_of_ble_eq_true rfl⟩ hO hG ho402 (cell_6 ho402.2.2) rfl rfl rfl hl.1 rfl (Nat.le_of_ble_eq_true rfl) dL_law_1108 ⟨(by show _ ≤ 600000; omega), (by show _ ≤ 7302249; omega)⟩) hG (fun r401 σ400 H locs hq hG => ?_)
        obtain ⟨eNσ400, eZσ400, hq⟩ := hq
        have hm : sN σ0 ≤ sN σ400 ∧ sZ σ0 ≤ sZ σ400 := ⟨by omega, by omega⟩
        refine W.widen (k := sN σ400 - sN σ0) (n := sZ σ400 - sZ σ0) (by omega) (by omega) ?_
        refine lv_aload_n hx hb dL_law_1111 rfl (lv_at hl 2 rfl) ?_
        refine lv_aload_n hx hb dL_law_1112 rfl (lv_at hl 0 rfl) ?_
        refine lv_iload_n hx hb dL_law_1113 rfl (lv_at hl 3 rfl) ?_
        refine lv_iconst (v := (1 : Int32)) hx hb dL_law_1114 (by decide) ?_
        refine lv_iadd hx hb dL_law_1115 ?_
        obtain ⟨hi404, hq⟩ := hq
        refine va_sld hx hb hX hbl hbA hG.2 hi404 dL_law_1116 ?_
        refine lv_aload_n hx hb dL_law_1117 rfl (lv_at hl 0 rfl) ?_
        refine lv_iload_n hx hb dL_law_1118 rfl (lv_at hl 3 rfl) ?_
        refine lv_iconst (v := (2 : Int32)) hx hb dL_law_1119 (by decide) ?_
        refine lv_iadd hx hb dL_law_1120 ?_
        obtain ⟨hi405, hq⟩ := hq
        refine va_sld hx hb hX hbl hbA hG.2 hi405 dL_law_1121 ?_
        obtain ⟨ho408, hq⟩ := hq
        obtain ⟨lm409, lm409a, lm409b, lm409c, lm409d, hq⟩ := hq
        refine r_fi (r_V (As := [.int (xs (i3 + (1 : Int32)).toNatClampNeg), .int (xs (i3 + (2 : Int32)).toNatClampNeg)]) (rest := [.int r401]) ⟨hx, hb, hml, hown, ht⟩ (kX7_quiet E l lm409 σ400 a2 (xs (i3 + (1 : Int32)).toNatClampNeg) (xs (i3 + (2 : Int32)).toNatClampNeg) _ hq) mVX7_quiet q_1249 rfl rfl ⟨Nat.le_of_ble_eq_true rfl, Nat.le_of_ble_eq_true rfl⟩ hO hG ho408 (cell_7 ho408.2.2) rfl rfl rfl hl.1 rfl (Nat.le_of_ble_eq_true rfl) dL_law_1122 ⟨(by show _ ≤ 600000; omega), (by show _ ≤ 7302249; omega)⟩) hG (fun r407 σ406 H locs hq hG => ?_)
        obtain ⟨eNσ406, eZσ406, hq⟩ := hq
        have hm : sN σ0 ≤ sN σ406 ∧ sZ σ0 ≤ sZ σ406 := ⟨by omega, by omega⟩
        refine W.widen (k := sN σ406 - sN σ0) (n := sZ σ406 - sZ σ0) (by omega) (by omega) ?_
        refine lv_icmp_eq (tgt := 1430) hx hb dL_law_1125 (by decide) (fun hc410 => ?_) (fun hc410 => ?_)
        · have hq := hq.1 hc410
          obtain ⟨y411, ey411⟩ : ∃ y : Int32, y = i3 + (7 : Int32) := ⟨_, rfl⟩
          have hq := hq y411 ey411
          refine lv_iinc (v := y411) (lv' := [(3, .int y411), (0, .ref (gA E 0)), (1, .ref (gA E a1)), (2, .ref (gA E a2))]) hx hb dL_law_1430 hl (k := 3) rfl (by rw [ey411]; rfl) (by decide) rfl (fun ls hl => ?_)
          refine lv_goto (tgt := 18) hx hb dL_law_1433 (by decide) ?_
          exact ih y411 σ406 hq hm H locs ls hG (lv_sub hl [1, 2, 3, 0] rfl)
        · have hq := hq.2 hc410
          refine lv_iconst (v := (0 : Int32)) hx hb dL_law_1128 (by decide) ?_
          obtain ⟨hz1, hz2, hq⟩ := hq
          exact absurd hq (by decide)
      have hq := hq.2 hs397
      by_cases hs412 : (xs i3.toNatClampNeg &&& (63 : Int32)) = (27 : Int32)
      · have hq := hq.1 hs412
        refine lv_tableIn (off := 1097) (tgt := 1130) hx hb dL_law_33 (by rw [hs412]; decide) (by rw [hs412]; decide) (by rw [hs412]; rfl) (by decide) ?_
        refine lv_aload_n hx hb dL_law_1130 rfl (lv_at hl 1 rfl) ?_
        refine lv_aload_n hx hb dL_law_1131 rfl (lv_at hl 0 rfl) ?_
        refine lv_iload_n hx hb dL_law_1132 rfl (lv_at hl 3 rfl) ?_
        refine lv_iconst (v := (1 : Int32)) hx hb dL_law_1133 (by decide) ?_
        refine lv_iadd hx hb dL_law_1134 ?_
        obtain ⟨hi413, hq⟩ := hq
        refine va_sld hx hb hX hbl hbA hG.2 hi413 dL_law_1135 ?_
        refine lv_aload_n hx hb dL_law_1136 rfl (lv_at hl 0 rfl) ?_
        refine lv_iload_n hx hb dL_law_1137 rfl (lv_at hl 3 rfl) ?_
        refine lv_iconst (v := (2 : Int32)) hx hb dL_law_1138 (by decide) ?_
        refine lv_iadd hx hb dL_law_1139 ?_
        obtain ⟨hi414, hq⟩ := hq
        refine va_sld hx hb hX hbl hbA hG.2 hi414 dL_law_1140 ?_
        refine lv_aload_n hx hb dL_law_1141 rfl (lv_at hl 0 rfl) ?_
        refine lv_iload_n hx hb dL_law_1142 rfl (lv_at hl 3 rfl) ?_
        refine lv_iconst (v := (3 : Int32)) hx hb dL_law_1143 (by decide) ?_
        refine lv_iadd hx hb dL_law_1144 ?_
        obtain ⟨hi415, hq⟩ := hq
        refine va_sld hx hb hX hbl hbA hG.2 hi415 dL_law_1145 ?_
        refine lv_aload_n hx hb dL_law_1146 rfl (lv_at hl 0 rfl) ?_
        refine lv_iload_n hx hb dL_law_1147 rfl (lv_at hl 3 rfl) ?_
        refine lv_iconst (v := (4 : Int32)) hx hb dL_law_1148 (by decide) ?_
        refine lv_iadd hx hb dL_law_1149 ?_
        obtain ⟨hi416, hq⟩ := hq
        refine va_sld hx hb hX hbl hbA hG.2 hi416 dL_law_1150 ?_
        obtain ⟨ho419, hq⟩ := hq
        obtain ⟨hf420, hf420b, hq⟩ := hq
        refine r_fi (r_V (As := [.int (xs (i3 + (1 : Int32)).toNatClampNeg), .int (xs (i3 + (2 : Int32)).toNatClampNeg), .int (xs (i3 + (3 : Int32)).toNatClampNeg), .int (xs (i3 + (4 : Int32)).toNatClampNeg)]) (rest := []) ⟨hx, hb, hml, hown, ht⟩ (kX6_offer E l σ a1 (xs (i3 + (1 : Int32)).toNatClampNeg) (xs (i3 + (2 : Int32)).toNatClampNeg) (xs (i3 + (3 : Int32)).toNatClampNeg) (xs (i3 + (4 : Int32)).toNatClampNeg) _ hq) mVX6_offer q_782 rfl rfl ⟨Nat.le_of_ble_eq_true rfl, Nat.le_of_ble_eq_true rfl⟩ hO hG ho419 (cell_6 ho419.2.2) rfl rfl rfl hl.1 rfl (Nat.le_of_ble_eq_true rfl) dL_law_1151 ⟨(by show _ ≤ 600000; omega), (by show _ ≤ 7302249; omega)⟩) hG (fun r418 σ417 H locs hq hG => ?_)
        obtain ⟨eNσ417, eZσ417, hq⟩ := hq
        have hm : sN σ0 ≤ sN σ417 ∧ sZ σ0 ≤ sZ σ417 := ⟨by omega, by omega⟩
        refine W.widen (k := sN σ417 - sN σ0) (n := sZ σ417 - sZ σ0) (by omega) (by omega) ?_
        refine lv_aload_n hx hb dL_law_1154 rfl (lv_at hl 2 rfl) ?_
        refine lv_aload_n hx hb dL_law_1155 rfl (lv_at hl 0 rfl) ?_
        refine lv_iload_n hx hb dL_law_1156 rfl (lv_at hl 3 rfl) ?_
        refine lv_iconst (v := (1 : Int32)) hx hb dL_law_1157 (by decide) ?_
        refine lv_iadd hx hb dL_law_1158 ?_
        obtain ⟨hi421, hq⟩ := hq
        refine va_sld hx hb hX hbl hbA hG.2 hi421 dL_law_1159 ?_
        refine lv_aload_n hx hb dL_law_1160 rfl (lv_at hl 0 rfl) ?_
        refine lv_iload_n hx hb dL_law_1161 rfl (lv_at hl 3 rfl) ?_
        refine lv_iconst (v := (2 : Int32)) hx hb dL_law_1162 (by decide) ?_
        refine lv_iadd hx hb dL_law_1163 ?_
        obtain ⟨hi422, hq⟩ := hq
        refine va_sld hx hb hX hbl hbA hG.2 hi422 dL_law_1164 ?_
        refine lv_aload_n hx hb dL_law_1165 rfl (lv_at hl 0 rfl) ?_
        refine lv_iload_n hx hb dL_law_1166 rfl (lv_at hl 3 rfl) ?_
        refine lv_iconst (v := (3 : Int32)) hx hb dL_law_1167 (by decide) ?_
        refine lv_iadd hx hb dL_law_1168 ?_
        obtain ⟨hi423, hq⟩ := hq
        refine va_sld hx hb hX hbl hbA hG.2 hi423 dL_law_1169 ?_
        refine lv_aload_n hx hb dL_law_1170 rfl (lv_at hl 0 rfl) ?_
        refine lv_iload_n hx hb dL_law_1171 rfl (lv_at hl 3 rfl) ?_
        refine lv_iconst (v := (4 : Int32)) hx hb dL_law_1172 (by decide) ?_
        refine lv_iadd hx hb dL_law_1173 ?_
        obtain ⟨hi424, hq⟩ := hq
        refine va_sld hx hb hX hbl hbA hG.2 hi424 dL_law_1174 ?_
        obtain ⟨ho427, hq⟩ := hq
        obtain ⟨lm428, lm428a, lm428b, lm428c, lm428d, hq⟩ := hq
        refine r_fi (r_V (As := [.int (xs (i3 + (1 : Int32)).toNatClampNeg), .int (xs (i3 + (2 : Int32)).toNatClampNeg), .int (xs (i3 + (3 : Int32)).toNatClampNeg), .int (xs (i3 + (4 : Int32)).toNatClampNeg)]) (rest := [.int r418]) ⟨hx, hb, hml, hown, ht⟩ (kX7_offer E l lm428 σ417 a2 (xs (i3 + (1 : Int32)).toNatClampNeg) (xs (i3 + (2 : Int32)).toNatClampNeg) (xs (i3 + (3 : Int32)).toNatClampNeg) (xs (i3 + (4 : Int32)).toNatClampNeg) _ hq) mVX7_offer q_1253 rfl rfl ⟨Nat.le_of_ble_eq_true rfl, Nat.le_of_ble_eq_true rfl⟩ hO hG ho427 (cell_7 ho427.2.2) rfl rfl rfl hl.1 rfl (Nat.le_of_ble_eq_true rfl) dL_law_1175 ⟨(by show _ ≤ 600000; omega), (by show _ ≤ 7302249; omega)⟩) hG (fun r426 σ425 H locs hq hG => ?_)
        obtain ⟨eNσ425, eZσ425, hq⟩ := hq
        have hm : sN σ0 ≤ sN σ425 ∧ sZ σ0 ≤ sZ σ425 := ⟨by omega, by omega⟩
        refine W.widen (k := sN σ425 - sN σ0) (n := sZ σ425 - sZ σ0) (by omega) (by omega) ?_
        refine lv_icmp_eq (tgt := 1430) hx hb dL_law_1178 (by decide) (fun hc429 => ?_) (fun hc429 => ?_)
        · have hq := hq.1 hc429
          obtain ⟨y430, ey430⟩ : ∃ y : Int32, y = i3 + (7 : Int32) := ⟨_, rfl⟩
          have hq := hq y430 ey430
          refine lv_iinc (v := y430) (lv' := [(3, .int y430), (0, .ref (gA E 0)), (1, .ref (gA E a1)), (2, .ref (gA E a2))]) hx hb dL_law_1430 hl (k := 3) rfl (by rw [ey430]; rfl) (by decide) rfl (fun ls hl => ?_)
          refine lv_goto (tgt := 18) hx hb dL_law_1433 (by decide) ?_
          exact ih y430 σ425 hq hm H locs ls hG (lv_sub hl [1, 2, 3, 0] rfl)
        · have hq := hq.2 hc429
          refine lv_iconst (v := (0 : Int32)) hx hb dL_law_1181 (by decide) ?_
          obtain ⟨hz1, hz2, hq⟩ := hq
          exact absurd hq (by decide)
      have hq := hq.2 hs412
      by_cases hs431 : (xs i3.toNatClampNeg &&& (63 : Int32)) = (28 : Int32)
      · have hq := hq.1 hs431
        refine lv_tableIn (off := 1150) (tgt := 1183) hx hb dL_law_33 (by rw [hs431]; decide) (by rw [hs431]; decide) (by rw [hs431]; rfl) (by decide) ?_
        refine lv_aload_n hx hb dL_law_1183 rfl (lv_at hl 1 rfl) ?_
        refine lv_aload_n hx hb dL_law_1184 rfl (lv_at hl 0 rfl) ?_
        refine lv_iload_n hx hb dL_law_1185 rfl (lv_at hl 3 rfl) ?_
        refine lv_iconst (v := (1 : Int32)) hx hb dL_law_1186 (by decide) ?_
        refine lv_iadd hx hb dL_law_1187 ?_
        obtain ⟨hi432, hq⟩ := hq
        refine va_sld hx hb hX hbl hbA hG.2 hi432 dL_law_1188 ?_
        refine lv_aload_n hx hb dL_law_1189 rfl (lv_at hl 0 rfl) ?_
        refine lv_iload_n hx hb dL_law_1190 rfl (lv_at hl 3 rfl) ?_
        refine lv_iconst (v := (2 : Int32)) hx hb dL_law_1191 (by decide) ?_
        refine lv_iadd hx hb dL_law_1192 ?_
        obtain ⟨hi433, hq⟩ := hq
        refine va_sld hx hb hX hbl hbA hG.2 hi433 dL_law_1193 ?_
        refine lv_aload_n hx hb dL_law_1194 rfl (lv_at hl 0 rfl) ?_
        refine lv_iload_n hx hb dL_law_1195 rfl (lv_at hl 3 rfl) ?_
        refine lv_iconst (v := (3 : Int32)) hx hb dL_law_1196 (by decide) ?_
        refine lv_iadd hx hb dL_law_1197 ?_
        obtain ⟨hi434, hq⟩ := hq
        refine va_sld hx hb hX hbl hbA hG.2 hi434 dL_law_1198 ?_
        obtain ⟨ho437, hq⟩ := hq
        obtain ⟨hf438, hf438b, hq⟩ := hq
        refine r_fi (r_V (As := [.int (xs (i3 + (1 : Int32)).toNatClampNeg), .int (xs (i3 + (2 : Int32)).toNatClampNeg), .int (xs (i3 + (3 : Int32)).toNatClampNeg)]) (rest := []) ⟨hx, hb, hml, hown, ht⟩ (kX6_one E l σ a1 (xs (i3 + (1 : Int32)).toNatClampNeg) (xs (i3 + (2 : Int32)).toNatClampNeg) (xs (i3 + (3 : Int32)).toNatClampNeg) _ hq) mVX6_one q_788 rfl rfl ⟨Nat.le_of_ble_eq_true rfl, Nat.le_of_ble_eq_true rfl⟩ hO hG ho437 (cell_6 ho437.2.2) rfl rfl rfl hl.1 rfl (Nat.le_of_ble_eq_true rfl) dL_law_1199 ⟨(by show _ ≤ 600000; omega), (by show _ ≤ 7302249; omega)⟩) hG (fun r436 σ435 H locs hq hG => ?_)
        obtain ⟨eNσ435, eZσ435, hq⟩ := hq
        have hm : sN σ0 ≤ sN σ435 ∧ sZ σ0 ≤ sZ σ435 := ⟨by omega, by omega⟩
        refine W.widen (k := sN σ435 - sN σ0) (n := sZ σ435 - sZ σ0) (by omega) (by omega) ?_
        refine lv_aload_n hx hb dL_law_1202 rfl (lv_at hl 2 rfl) ?_
        refine lv_aload_n hx hb dL_law_1203 rfl (lv_at hl 0 rfl) ?_
        refine lv_iload_n hx hb dL_law_1204 rfl (lv_at hl 3 rfl) ?_
        refine lv_iconst (v := (1 : Int32)) hx hb dL_law_1205 (by decide) ?_
        refine lv_iadd hx hb dL_law_1206 ?_
        obtain ⟨hi439, hq⟩ := hq
        refine va_sld hx hb hX hbl hbA hG.2 hi439 dL_law_1207 ?_
        refine lv_aload_n hx hb dL_law_1208 rfl (lv_at hl 0 rfl) ?_
        refine lv_iload_n hx hb dL_law_1209 rfl (lv_at hl 3 rfl) ?_
        refine lv_iconst (v := (2 : Int32)) hx hb dL_law_1210 (by decide) ?_
        refine lv_iadd hx hb dL_law_1211 ?_
        obtain ⟨hi440, hq⟩ := hq
        refine va_sld hx hb hX hbl hbA hG.2 hi440 dL_law_1212 ?_
        refine lv_aload_n hx hb dL_law_1213 rfl (lv_at hl 0 rfl) ?_
        refine lv_iload_n hx hb dL_law_1214 rfl (lv_at hl 3 rfl) ?_
        refine lv_iconst (v := (3 : Int32)) hx hb dL_law_1215 (by decide) ?_
        refine lv_iadd hx hb dL_law_1216 ?_
        obtain ⟨hi441, hq⟩ := hq
        refine va_sld hx hb hX hbl hbA hG.2 hi441 dL_law_1217 ?_
        obtain ⟨ho444, hq⟩ := hq
        obtain ⟨lm445, lm445a, lm445b, lm445c, lm445d, hq⟩ := hq
        refine r_fi (r_V (As := [.int (xs (i3 + (1 : Int32)).toNatClampNeg), .int (xs (i3 + (2 : Int32)).toNatClampNeg), .int (xs (i3 + (3 : Int32)).toNatClampNeg)]) (rest := [.int r436]) ⟨hx, hb, hml, hown, ht⟩ (kX7_one E l lm445 σ435 a2 (xs (i3 + (1 : Int32)).toNatClampNeg) (xs (i3 + (2 : Int32)).toNatClampNeg) (xs (i3 + (3 : Int32)).toNatClampNeg) _ hq) mVX7_one q_1258 rfl rfl ⟨Nat.le_of_ble_eq_true rfl, Nat.le_of_ble_eq_true rfl⟩ hO hG ho444 (cell_7 ho444.2.2) rfl rfl rfl hl.1 rfl (Nat.le_of_ble_eq_true rfl) dL_law_1218 ⟨(by show _ ≤ 600000; omega), (by show _ ≤ 7302249; omega)⟩) hG (fun r443 σ442 H locs hq hG => ?_)
        obtain ⟨eNσ442, eZσ442, hq⟩ := hq
        have hm : sN σ0 ≤ sN σ442 ∧ sZ σ0 ≤ sZ σ442 := ⟨by omega, by omega⟩
        refine W.widen (k := sN σ442 - sN σ0) (n := sZ σ442 - sZ σ0) (by omega) (by omega) ?_
        refine lv_icmp_eq (tgt := 1430) hx hb dL_law_1221 (by decide) (fun hc446 => ?_) (fun hc446 => ?_)
        · have hq := hq.1 hc446
          obtain ⟨y447, ey447⟩ : ∃ y : Int32, y = i3 + (7 : Int32) := ⟨_, rfl⟩
          have hq := hq y447 ey447
          refine lv_iinc (v := y447) (lv' := [(3, .int y447), (0, .ref (gA E 0)), (1, .ref (gA E a1)), (2, .ref (gA E a2))]) hx hb dL_law_1430 hl (k := 3) rfl (by rw [ey447]; rfl) (by decide) rfl (fun ls hl => ?_)
          refine lv_goto (tgt := 18) hx hb dL_law_1433 (by decide) ?_
          exact ih y447 σ442 hq hm H locs ls hG (lv_sub hl [1, 2, 3, 0] rfl)
        · have hq := hq.2 hc446
          refine lv_iconst (v := (0 : Int32)) hx hb dL_law_1224 (by decide) ?_
          obtain ⟨hz1, hz2, hq⟩ := hq
          exact absurd hq (by decide)
      have hq := hq.2 hs431
      by_cases hs448 : (xs i3.toNatClampNeg &&& (63 : Int32)) = (29 : Int32)
      · have hq := hq.1 hs448
        refine lv_tableIn (off := 1193) (tgt := 1226) hx hb dL_law_33 (by rw [hs448]; decide) (by rw [hs448]; decide) (by rw [hs448]; rfl) (by decide) ?_
        refine lv_aload_n hx hb dL_law_1226 rfl (lv_at hl 1 rfl) ?_
        refine lv_aload_n hx hb dL_law_1227 rfl (lv_at hl 0 rfl) ?_
        refine lv_iload_n hx hb dL_law_1228 rfl (lv_at hl 3 rfl) ?_
        refine lv_iconst (v := (1 : Int32)) hx hb dL_law_1229 (by decide) ?_
        refine lv_iadd hx hb dL_law_1230 ?_
        obtain ⟨hi449, hq⟩ := hq
        refine va_sld hx hb hX hbl hbA hG.2 hi449 dL_law_1231 ?_
        obtain ⟨ho452, hq⟩ := hq
        obtain ⟨hf453, hf453b, hq⟩ := hq
        refine r_fi (r_V (As := [.int (xs (i3 + (1 : Int32)).toNatClampNeg)]) (rest := []) ⟨hx, hb, hml, hown, ht⟩ (kX6_all E l σ a1 (xs (i3 + (1 : Int32)).toNatClampNeg) _ hq) mVX6_all q_798 rfl rfl ⟨Nat.le_of_ble_eq_true rfl, Nat.le_of_ble_eq_true rfl⟩ hO hG ho452 (cell_6 ho452.2.2) rfl rfl rfl hl.1 rfl (Nat.le_of_ble_eq_true rfl) dL_law_1232 ⟨(by show _ ≤ 600000; omega), (by show _ ≤ 7302249; omega)⟩) hG (fun r451 σ450 H locs hq hG => ?_)
        obtain ⟨eNσ450, eZσ450, hq⟩ := hq
        have hm : sN σ0 ≤ sN σ450 ∧ sZ σ0 ≤ sZ σ450 := ⟨by omega, by omega⟩
        refine W.widen (k := sN σ450 - sN σ0) (n := sZ σ450 - sZ σ0) (by omega) (by omega) ?_
        refine lv_aload_n hx hb dL_law_1235 rfl (lv_at hl 2 rfl) ?_
        refine lv_aload_n hx hb dL_law_1236 rfl (lv_at hl 0 rfl) ?_
        refine lv_iload_n hx hb dL_law_1237 rfl (lv_at hl 3 rfl) ?_
        refine lv_iconst (v := (1 : Int32)) hx hb dL_law_1238 (by decide) ?_
        refine lv_iadd hx hb dL_law_1239 ?_
        obtain ⟨hi454, hq⟩ := hq
        refine va_sld hx hb hX hbl hbA hG.2 hi454 dL_law_1240 ?_
        obtain ⟨ho457, hq⟩ := hq
        obtain ⟨hf458, hf458b, hq⟩ := hq
        refine r_fi (r_V (As := [.int (xs (i3 + (1 : Int32)).toNatClampNeg)]) (rest := [.int r451]) ⟨hx, hb, hml, hown, ht⟩ (kX7_all E l σ450 a2 (xs (i3 + (1 : Int32)).toNatClampNeg) _ hq) mVX7_all q_1266 rfl rfl ⟨Nat.le_of_ble_eq_true rfl, Nat.le_of_ble_eq_true rfl⟩ hO hG ho457 (cell_7 ho457.2.2) rfl rfl rfl hl.1 rfl (Nat.le_of_ble_eq_true rfl) dL_law_1241 ⟨(by show _ ≤ 600000; omega), (by show _ ≤ 7302249; omega)⟩) hG (fun r456 σ455 H locs hq hG => ?_)
        obtain ⟨eNσ455, eZσ455, hq⟩ := hq
        have hm : sN σ0 ≤ sN σ455 ∧ sZ σ0 ≤ sZ σ455 := ⟨by omega, by omega⟩
        refine W.widen (k := sN σ455 - sN σ0) (n := sZ σ455 - sZ σ0) (by omega) (by omega) ?_
        refine lv_icmp_eq (tgt := 1430) hx hb dL_law_1244 (by decide) (fun hc459 => ?_) (fun hc459 => ?_)
        · have hq := hq.1 hc459
          obtain ⟨y460, ey460⟩ : ∃ y : Int32, y = i3 + (7 : Int32) := ⟨_, rfl⟩
          have hq := hq y460 ey460
          refine lv_iinc (v := y460) (lv' := [(3, .int y460), (0, .ref (gA E 0)), (1, .ref (gA E a1)), (2, .ref (gA E a2))]) hx hb dL_law_1430 hl (k := 3) rfl (by rw [ey460]; rfl) (by decide) rfl (fun ls hl => ?_)
          refine lv_goto (tgt := 18) hx hb dL_law_1433 (by decide) ?_
          exact ih y460 σ455 hq hm H locs ls hG (lv_sub hl [1, 2, 3, 0] rfl)
        · have hq := hq.2 hc459
          refine lv_iconst (v := (0 : Int32)) hx hb dL_law_1247 (by decide) ?_
          obtain ⟨hz1, hz2, hq⟩ := hq
          exact absurd hq (by decide)
      have hq := hq.2 hs448
      by_cases hs461 : (xs i3.toNatClampNeg &&& (63 : Int32)) = (30 : Int32)
      · have hq := hq.1 hs461
        refine lv_tableIn (off := 1216) (tgt := 1249) hx hb dL_law_33 (by rw [hs461]; decide) (by rw [hs461]; decide) (by rw [hs461]; rfl) (by decide) ?_
        refine lv_aload_n hx hb dL_law_1249 rfl (lv_at hl 1 rfl) ?_
        refine lv_aload_n hx hb dL_law_1250 rfl (lv_at hl 0 rfl) ?_
        refine lv_iload_n hx hb dL_law_1251 rfl (lv_at hl 3 rfl) ?_
        refine lv_iconst (v := (1 : Int32)) hx hb dL_law_1252 (by decide) ?_
        refine lv_iadd hx hb dL_law_1253 ?_
        obtain ⟨hi462, hq⟩ := hq
        refine va_sld hx hb hX hbl hbA hG.2 hi462 dL_law_1254 ?_
        refine lv_aload_n hx hb dL_law_1255 rfl (lv_at hl 0 rfl) ?_
        refine lv_iload_n hx hb dL_law_1256 rfl (lv_at hl 3 rfl) ?_
        refine lv_iconst (v := (2 : Int32)) hx hb dL_law_1257 (by decide) ?_
        refine lv_iadd hx hb dL_law_1258 ?_
        obtain ⟨hi463, hq⟩ := hq
        refine va_sld hx hb hX hbl hbA hG.2 hi463 dL_law_1259 ?_
        refine lv_aload_n hx hb dL_law_1260 rfl (lv_at hl 0 rfl) ?_
        refine lv_iload_n hx hb dL_law_1261 rfl (lv_at hl 3 rfl) ?_
        refine lv_iconst (v := (3 : Int32)) hx hb dL_law_1262 (by decide) ?_
        refine lv_iadd hx hb dL_law_1263 ?_
        obtain ⟨hi464, hq⟩ := hq
        refine va_sld hx hb hX hbl hbA hG.2 hi464 dL_law_1264 ?_
        obtain ⟨ho467, hq⟩ := hq
        obtain ⟨hf468, hf468b, hq⟩ := hq
        refine r_fi (r_V (As := [.int (xs (i3 + (1 : Int32)).toNatClampNeg), .int (xs (i3 + (2 : Int32)).toNatClampNeg), .int (xs (i3 + (3 : Int32)).toNatClampNeg)]) (rest := []) ⟨hx, hb, hml, hown, ht⟩ (kX6_holder E l σ a1 (xs (i3 + (1 : Int32)).toNatClampNeg) (xs (i3 + (2 : Int32)).toNatClampNeg) (xs (i3 + (3 : Int32)).toNatClampNeg) _ hq) mVX6_holder q_802 rfl rfl ⟨Nat.le_of_ble_eq_true rfl, Nat.le_of_ble_eq_true rfl⟩ hO hG ho467 (cell_6 ho467.2.2) rfl rfl rfl hl.1 rfl (Nat.le_of_ble_eq_true rfl) dL_law_1265 ⟨(by show _ ≤ 600000; omega), (by show _ ≤ 7302249; omega)⟩) hG (fun r466 σ465 H locs hq hG => ?_)
        obtain ⟨eNσ465, eZσ465, hq⟩ := hq
        have hm : sN σ0 ≤ sN σ465 ∧ sZ σ0 ≤ sZ σ465 := ⟨by omega, by omega⟩
        refine W.widen (k := sN σ465 - sN σ0) (n := sZ σ465 - sZ σ0) (by omega) (by omega) ?_
        refine lv_aload_n hx hb dL_law_1268 rfl (lv_at hl 2 rfl) ?_
        refine lv_aload_n hx hb dL_law_1269 rfl (lv_at hl 0 rfl) ?_
        refine lv_iload_n hx hb dL_law_1270 rfl (lv_at hl 3 rfl) ?_
        refine lv_iconst (v := (1 : Int32)) hx hb dL_law_1271 (by decide) ?_
        refine lv_iadd hx hb dL_law_1272 ?_
        obtain ⟨hi469, hq⟩ := hq
        refine va_sld hx hb hX hbl hbA hG.2 hi469 dL_law_1273 ?_
        refine lv_aload_n hx hb dL_law_1274 rfl (lv_at hl 0 rfl) ?_
        refine lv_iload_n hx hb dL_law_1275 rfl (lv_at hl 3 rfl) ?_
        refine lv_iconst (v := (2 : Int32)) hx hb dL_law_1276 (by decide) ?_
        refine lv_iadd hx hb dL_law_1277 ?_
        obtain ⟨hi470, hq⟩ := hq
        refine va_sld hx hb hX hbl hbA hG.2 hi470 dL_law_1278 ?_
        refine lv_aload_n hx hb dL_law_1279 rfl (lv_at hl 0 rfl) ?_
        refine lv_iload_n hx hb dL_law_1280 rfl (lv_at hl 3 rfl) ?_
        refine lv_iconst (v := (3 : Int32)) hx hb dL_law_1281 (by decide) ?_
        refine lv_iadd hx hb dL_law_1282 ?_
        obtain ⟨hi471, hq⟩ := hq
        refine va_sld hx hb hX hbl hbA hG.2 hi471 dL_law_1283 ?_
        obtain ⟨ho474, hq⟩ := hq
        obtain ⟨lm475, lm475a, lm475b, lm475c, lm475d, hq⟩ := hq
        refine r_fi (r_V (As := [.int (xs (i3 + (1 : Int32)).toNatClampNeg), .int (xs (i3 + (2 : Int32)).toNatClampNeg), .int (xs (i3 + (3 : Int32)).toNatClampNeg)]) (rest := [.int r466]) ⟨hx, hb, hml, hown, ht⟩ (kX7_holder E l lm475 σ465 a2 (xs (i3 + (1 : Int32)).toNatClampNeg) (xs (i3 + (2 : Int32)).toNatClampNeg) (xs (i3 + (3 : Int32)).toNatClampNeg) _ hq) mVX7_holder q_1270 rfl rfl ⟨Nat.le_of_ble_eq_true rfl, Nat.le_of_ble_eq_true rfl⟩ hO hG ho474 (cell_7 ho474.2.2) rfl rfl rfl hl.1 rfl (Nat.le_of_ble_eq_true rfl) dL_law_1284 ⟨(by show _ ≤ 600000; omega), (by show _ ≤ 7302249; omega)⟩) hG (fun r473 σ472 H locs hq hG => ?_)
        obtain ⟨eNσ472, eZσ472, hq⟩ := hq
        have hm : sN σ0 ≤ sN σ472 ∧ sZ σ0 ≤ sZ σ472 := ⟨by omega, by omega⟩
        refine W.widen (k := sN σ472 - sN σ0) (n := sZ σ472 - sZ σ0) (by omega) (by omega) ?_
        refine lv_icmp_eq (tgt := 1430) hx hb dL_law_1287 (by decide) (fun hc476 => ?_) (fun hc476 => ?_)
        · have hq := hq.1 hc476
          obtain ⟨y477, ey477⟩ : ∃ y : Int32, y = i3 + (7 : Int32) := ⟨_, rfl⟩
          have hq := hq y477 ey477
          refine lv_iinc (v := y477) (lv' := [(3, .int y477), (0, .ref (gA E 0)), (1, .ref (gA E a1)), (2, .ref (gA E a2))]) hx hb dL_law_1430 hl (k := 3) rfl (by rw [ey477]; rfl) (by decide) rfl (fun ls hl => ?_)
          refine lv_goto (tgt := 18) hx hb dL_law_1433 (by decide) ?_
          exact ih y477 σ472 hq hm H locs ls hG (lv_sub hl [1, 2, 3, 0] rfl)
        · have hq := hq.2 hc476
          refine lv_iconst (v := (0 : Int32)) hx hb dL_law_1290 (by decide) ?_
          obtain ⟨hz1, hz2, hq⟩ := hq
          exact absurd hq (by decide)
      have hq := hq.2 hs461
      by_cases hs478 : (xs i3.toNatClampNeg &&& (63 : Int32)) = (31 : Int32)
      · have hq := hq.1 hs478
        refine lv_tableIn (off := 1259) (tgt := 1292) hx hb dL_law_33 (by rw [hs478]; decide) (by rw [hs478]; decide) (by rw [hs478]; rfl) (by decide) ?_
        refine lv_aload_n hx hb dL_law_1292 rfl (lv_at hl 1 rfl) ?_
        refine lv_aload_n hx hb dL_law_1293 rfl (lv_at hl 0 rfl) ?_
        refine lv_iload_n hx hb dL_law_1294 rfl (lv_at hl 3 rfl) ?_
        refine lv_iconst (v := (1 : Int32)) hx hb dL_law_1295 (by decide) ?_
        refine lv_iadd hx hb dL_law_1296 ?_
        obtain ⟨hi479, hq⟩ := hq
        refine va_sld hx hb hX hbl hbA hG.2 hi479 dL_law_1297 ?_
        refine lv_aload_n hx hb dL_law_1298 rfl (lv_at hl 0 rfl) ?_
        refine lv_iload_n hx hb dL_law_1299 rfl (lv_at hl 3 rfl) ?_
        refine lv_iconst (v := (2 : Int32)) hx hb dL_law_1300 (by decide) ?_
        refine lv_iadd hx hb dL_law_1301 ?_
        obtain ⟨hi480, hq⟩ := hq
        refine va_sld hx hb hX hbl hbA hG.2 hi480 dL_law_1302 ?_
        obtain ⟨ho483, hq⟩ := hq
        obtain ⟨hf484, hf484b, hq⟩ := hq
        refine r_fi (r_V (As := [.int (xs (i3 + (1 : Int32)).toNatClampNeg), .int (xs (i3 + (2 : Int32)).toNatClampNeg)]) (rest := []) ⟨hx, hb, hml, hown, ht⟩ (kX6_hangs E l σ a1 (xs (i3 + (1 : Int32)).toNatClampNeg) (xs (i3 + (2 : Int32)).toNatClampNeg) _ hq) mVX6_hangs q_806 rfl rfl ⟨Nat.le_of_ble_eq_true rfl, Nat.le_of_ble_eq_true rfl⟩ hO hG ho483 (cell_6 ho483.2.2) rfl rfl rfl hl.1 rfl (Nat.le_of_ble_eq_true rfl) dL_law_1303 ⟨(by show _ ≤ 600000; omega), (by show _ ≤ 7302249; omega)⟩) hG (fun r482 σ481 H locs hq hG => ?_)
        obtain ⟨eNσ481, eZσ481, hq⟩ := hq
        have hm : sN σ0 ≤ sN σ481 ∧ sZ σ0 ≤ sZ σ481 := ⟨by omega, by omega⟩
        refine W.widen (k := sN σ481 - sN σ0) (n := sZ σ481 - sZ σ0) (by omega) (by omega) ?_
        refine lv_aload_n hx hb dL_law_1306 rfl (lv_at hl 2 rfl) ?_
        refine lv_aload_n hx hb dL_law_1307 rfl (lv_at hl 0 rfl) ?_
        refine lv_iload_n hx hb dL_law_1308 rfl (lv_at hl 3 rfl) ?_
        refine lv_iconst (v := (1 : Int32)) hx hb dL_law_1309 (by decide) ?_
        refine lv_iadd hx hb dL_law_1310 ?_
        obtain ⟨hi485, hq⟩ := hq
        refine va_sld hx hb hX hbl hbA hG.2 hi485 dL_law_1311 ?_
        refine lv_aload_n hx hb dL_law_1312 rfl (lv_at hl 0 rfl) ?_
        refine lv_iload_n hx hb dL_law_1313 rfl (lv_at hl 3 rfl) ?_
        refine lv_iconst (v := (2 : Int32)) hx hb dL_law_1314 (by decide) ?_
        refine lv_iadd hx hb dL_law_1315 ?_
        obtain ⟨hi486, hq⟩ := hq
        refine va_sld hx hb hX hbl hbA hG.2 hi486 dL_law_1316 ?_
        obtain ⟨ho489, hq⟩ := hq
        obtain ⟨lm490, lm490a, lm490b, lm490c, lm490d, hq⟩ := hq
        refine r_fi (r_V (As := [.int (xs (i3 + (1 : Int32)).toNatClampNeg), .int (xs (i3 + (2 : Int32)).toNatClampNeg)]) (rest := [.int r482]) ⟨hx, hb, hml, hown, ht⟩ (kX7_hangs E l lm490 σ481 a2 (xs (i3 + (1 : Int32)).toNatClampNeg) (xs (i3 + (2 : Int32)).toNatClampNeg) _ hq) mVX7_hangs q_1274 rfl rfl ⟨Nat.le_of_ble_eq_true rfl, Nat.le_of_ble_eq_true rfl⟩ hO hG ho489 (cell_7 ho489.2.2) rfl rfl rfl hl.1 rfl (Nat.le_of_ble_eq_true rfl) dL_law_1317 ⟨(by show _ ≤ 600000; omega), (by show _ ≤ 7302249; omega)⟩) hG (fun r488 σ487 H locs hq hG => ?_)
        obtain ⟨eNσ487, eZσ487, hq⟩ := hq
        have hm : sN σ0 ≤ sN σ487 ∧ sZ σ0 ≤ sZ σ487 := ⟨by omega, by omega⟩
        refine W.widen (k := sN σ487 - sN σ0) (n := sZ σ487 - sZ σ0) (by omega) (by omega) ?_
        refine lv_icmp_eq (tgt := 1430) hx hb dL_law_1320 (by decide) (fun hc491 => ?_) (fun hc491 => ?_)
        · have hq := hq.1 hc491
          obtain ⟨y492, ey492⟩ : ∃ y : Int32, y = i3 + (7 : Int32) := ⟨_, rfl⟩
          have hq := hq y492 ey492
          refine lv_iinc (v := y492) (lv' := [(3, .int y492), (0, .ref (gA E 0)), (1, .ref (gA E a1)), (2, .ref (gA E a2))]) hx hb dL_law_1430 hl (k := 3) rfl (by rw [ey492]; rfl) (by decide) rfl (fun ls hl => ?_)
          refine lv_goto (tgt := 18) hx hb dL_law_1433 (by decide) ?_
          exact ih y492 σ487 hq hm H locs ls hG (lv_sub hl [1, 2, 3, 0] rfl)
        · have hq := hq.2 hc491
          refine lv_iconst (v := (0 : Int32)) hx hb dL_law_1323 (by decide) ?_
          obtain ⟨hz1, hz2, hq⟩ := hq
          exact absurd hq (by decide)
      have hq := hq.2 hs478
      by_cases hs493 : (xs i3.toNatClampNeg &&& (63 : Int32)) = (32 : Int32)
      · have hq := hq.1 hs493
        refine lv_tableIn (off := 1292) (tgt := 1325) hx hb dL_law_33 (by rw [hs493]; decide) (by rw [hs493]; decide) (by rw [hs493]; rfl) (by decide) ?_
        refine lv_aload_n hx hb dL_law_1325 rfl (lv_at hl 1 rfl) ?_
        refine lv_aload_n hx hb dL_law_1326 rfl (lv_at hl 0 rfl) ?_
        refine lv_iload_n hx hb dL_law_1327 rfl (lv_at hl 3 rfl) ?_
        refine lv_iconst (v := (1 : Int32)) hx hb dL_law_1328 (by decide) ?_
        refine lv_iadd hx hb dL_law_1329 ?_
        obtain ⟨hi494, hq⟩ := hq
        refine va_sld hx hb hX hbl hbA hG.2 hi494 dL_law_1330 ?_
        refine lv_aload_n hx hb dL_law_1331 rfl (lv_at hl 0 rfl) ?_
        refine lv_iload_n hx hb dL_law_1332 rfl (lv_at hl 3 rfl) ?_
        refine lv_iconst (v := (2 : Int32)) hx hb dL_law_1333 (by decide) ?_
        refine lv_iadd hx hb dL_law_1334 ?_
        obtain ⟨hi495, hq⟩ := hq
        refine va_sld hx hb hX hbl hbA hG.2 hi495 dL_law_1335 ?_
        obtain ⟨ho498, hq⟩ := hq
        obtain ⟨hf499, hf499b, hq⟩ := hq
        refine r_fi (r_V (As := [.int (xs (i3 + (1 : Int32)).toNatClampNeg), .int (xs (i3 + (2 : Int32)).toNatClampNeg)]) (rest := []) ⟨hx, hb, hml, hown, ht⟩ (kX6_enough E l σ a1 (xs (i3 + (1 : Int32)).toNatClampNeg) (xs (i3 + (2 : Int32)).toNatClampNeg) _ hq) mVX6_enough q_810 rfl rfl ⟨Nat.le_of_ble_eq_true rfl, Nat.le_of_ble_eq_true rfl⟩ hO hG ho498 (cell_6 ho498.2.2) rfl rfl rfl hl.1 rfl (Nat.le_of_ble_eq_true rfl) dL_law_1336 ⟨(by show _ ≤ 600000; omega), (by show _ ≤ 7302249; omega)⟩) hG (fun r497 σ496 H locs hq hG => ?_)
        obtain ⟨eNσ496, eZσ496, hq⟩ := hq
        have hm : sN σ0 ≤ sN σ496 ∧ sZ σ0 ≤ sZ σ496 := ⟨by omega, by omega⟩
        refine W.widen (k := sN σ496 - sN σ0) (n := sZ σ496 - sZ σ0) (by omega) (by omega) ?_
        refine lv_aload_n hx hb dL_law_1339 rfl (lv_at hl 2 rfl) ?_
        refine lv_aload_n hx hb dL_law_1340 rfl (lv_at hl 0 rfl) ?_
        refine lv_iload_n hx hb dL_law_1341 rfl (lv_at hl 3 rfl) ?_
        refine lv_iconst (v := (1 : Int32)) hx hb dL_law_1342 (by decide) ?_
        refine lv_iadd hx hb dL_law_1343 ?_
        obtain ⟨hi500, hq⟩ := hq
        refine va_sld hx hb hX hbl hbA hG.2 hi500 dL_law_1344 ?_
        refine lv_aload_n hx hb dL_law_1345 rfl (lv_at hl 0 rfl) ?_
        refine lv_iload_n hx hb dL_law_1346 rfl (lv_at hl 3 rfl) ?_
        refine lv_iconst (v := (2 : Int32)) hx hb dL_law_1347 (by decide) ?_
        refine lv_iadd hx hb dL_law_1348 ?_
        obtain ⟨hi501, hq⟩ := hq
        refine va_sld hx hb hX hbl hbA hG.2 hi501 dL_law_1349 ?_
        obtain ⟨ho504, hq⟩ := hq
        obtain ⟨lm505, lm505a, lm505b, lm505c, lm505d, hq⟩ := hq
        refine r_fi (r_V (As := [.int (xs (i3 + (1 : Int32)).toNatClampNeg), .int (xs (i3 + (2 : Int32)).toNatClampNeg)]) (rest := [.int r497]) ⟨hx, hb, hml, hown, ht⟩ (kX7_enough E l lm505 σ496 a2 (xs (i3 + (1 : Int32)).toNatClampNeg) (xs (i3 + (2 : Int32)).toNatClampNeg) _ hq) mVX7_enough q_1278 rfl rfl ⟨Nat.le_of_ble_eq_true rfl, Nat.le_of_ble_eq_true rfl⟩ hO hG ho504 (cell_7 ho504.2.2) rfl rfl rfl hl.1 rfl (Nat.le_of_ble_eq_true rfl) dL_law_1350 ⟨(by show _ ≤ 600000; omega), (by show _ ≤ 7302249; omega)⟩) hG (fun r503 σ502 H locs hq hG => ?_)
        obtain ⟨eNσ502, eZσ502, hq⟩ := hq
        have hm : sN σ0 ≤ sN σ502 ∧ sZ σ0 ≤ sZ σ502 := ⟨by omega, by omega⟩
        refine W.widen (k := sN σ502 - sN σ0) (n := sZ σ502 - sZ σ0) (by omega) (by omega) ?_
        refine lv_icmp_eq (tgt := 1430) hx hb dL_law_1353 (by decide) (fun hc506 => ?_) (fun hc506 => ?_)
        · have hq := hq.1 hc506
          obtain ⟨y507, ey507⟩ : ∃ y : Int32, y = i3 + (7 : Int32) := ⟨_, rfl⟩
          have hq := hq y507 ey507
          refine lv_iinc (v := y507) (lv' := [(3, .int y507), (0, .ref (gA E 0)), (1, .ref (gA E a1)), (2, .ref (gA E a2))]) hx hb dL_law_1430 hl (k := 3) rfl (by rw [ey507]; rfl) (by decide) rfl (fun ls hl => ?_)
          refine lv_goto (tgt := 18) hx hb dL_law_1433 (by decide) ?_
          exact ih y507 σ502 hq hm H locs ls hG (lv_sub hl [1, 2, 3, 0] rfl)
        · have hq := hq.2 hc506
          refine lv_iconst (v := (0 : Int32)) hx hb dL_law_1356 (by decide) ?_
          obtain ⟨hz1, hz2, hq⟩ := hq
          exact absurd hq (by decide)
      have hq := hq.2 hs493
      by_cases hs508 : (xs i3.toNatClampNeg &&& (63 : Int32)) = (33 : Int32)
      · have hq := hq.1 hs508
        refine lv_tableIn (off := 1325) (tgt := 1358) hx hb dL_law_33 (by rw [hs508]; decide) (by rw [hs508]; decide) (by rw [hs508]; rfl) (by decide) ?_
        refine lv_aload_n hx hb dL_law_1358 rfl (lv_at hl 1 rfl) ?_
        refine lv_aload_n hx hb dL_law_1359 rfl (lv_at hl 0 rfl) ?_
        refine lv_iload_n hx hb dL_law_1360 rfl (lv_at hl 3 rfl) ?_
        refine lv_iconst (v := (1 : Int32)) hx hb dL_law_1361 (by decide) ?_
        refine lv_iadd hx hb dL_law_1362 ?_
        obtain ⟨hi509, hq⟩ := hq
        refine va_sld hx hb hX hbl hbA hG.2 hi509 dL_law_1363 ?_
        obtain ⟨ho512, hq⟩ := hq
        obtain ⟨hf513, hf513b, hq⟩ := hq
        refine r_fi (r_V (As := [.int (xs (i3 + (1 : Int32)).toNatClampNeg)]) (rest := []) ⟨hx, hb, hml, hown, ht⟩ (kX6_seed E l σ a1 (xs (i3 + (1 : Int32)).toNatClampNeg) _ hq) mVX6_seed q_815 rfl rfl ⟨Nat.le_of_ble_eq_true rfl, Nat.le_of_ble_eq_true rfl⟩ hO hG ho512 (cell_6 ho512.2.2) rfl rfl rfl hl.1 rfl (Nat.le_of_ble_eq_true rfl) dL_law_1364 ⟨(by show _ ≤ 600000; omega), (by show _ ≤ 7302249; omega)⟩) hG (fun r511 σ510 H locs hq hG => ?_)
        obtain ⟨eNσ510, eZσ510, hq⟩ := hq
        have hm : sN σ0 ≤ sN σ510 ∧ sZ σ0 ≤ sZ σ510 := ⟨by omega, by omega⟩
        refine W.widen (k := sN σ510 - sN σ0) (n := sZ σ510 - sZ σ0) (by omega) (by omega) ?_
        refine lv_aload_n hx hb dL_law_1367 rfl (lv_at hl 2 rfl) ?_
        refine lv_aload_n hx hb dL_law_1368 rfl (lv_at hl 0 rfl) ?_
        refine lv_iload_n hx hb dL_law_1369 rfl (lv_at hl 3 rfl) ?_
        refine lv_iconst (v := (1 : Int32)) hx hb dL_law_1370 (by decide) ?_
        refine lv_iadd hx hb dL_law_1371 ?_
        obtain ⟨hi514, hq⟩ := hq
        refine va_sld hx hb hX hbl hbA hG.2 hi514 dL_law_1372 ?_
        obtain ⟨ho517, hq⟩ := hq
        obtain ⟨hf518, hf518b, hq⟩ := hq
        refine r_fi (r_V (As := [.int (xs (i3 + (1 : Int32)).toNatClampNeg)]) (rest := [.int r511]) ⟨hx, hb, hml, hown, ht⟩ (kX7_seed E l σ510 a2 (xs (i3 + (1 : Int32)).toNatClampNeg) _ hq) mVX7_seed q_1282 rfl rfl ⟨Nat.le_of_ble_eq_true rfl, Nat.le_of_ble_eq_true rfl⟩ hO hG ho517 (cell_7 ho517.2.2) rfl rfl rfl hl.1 rfl (Nat.le_of_ble_eq_true rfl) dL_law_1373 ⟨(by show _ ≤ 600000; omega), (by show _ ≤ 7302249; omega)⟩) hG (fun r516 σ515 H locs hq hG => ?_)
        obtain ⟨eNσ515, eZσ515, hq⟩ := hq
        have hm : sN σ0 ≤ sN σ515 ∧ sZ σ0 ≤ sZ σ515 := ⟨by omega, by omega⟩
        refine W.widen (k := sN σ515 - sN σ0) (n := sZ σ515 - sZ σ0) (by omega) (by omega) ?_
        refine lv_icmp_eq (tgt := 1430) hx hb dL_law_1376 (by decide) (fun hc519 => ?_) (fun hc519 => ?_)
        · have hq := hq.1 hc519
          obtain ⟨y520, ey520⟩ : ∃ y : Int32, y = i3 + (7 : Int32) := ⟨_, rfl⟩
          have hq := hq y520 ey520
          refine lv_iinc (v := y520) (lv' := [(3, .int y520), (0, .ref (gA E 0)), (1, .ref (gA E a1)), (2, .ref (gA E a2))]) hx hb dL_law_1430 hl (k := 3) rfl (by rw [ey520]; rfl) (by decide) rfl (fun ls hl => ?_)
          refine lv_goto (tgt := 18) hx hb dL_law_1433 (by decide) ?_
          exact ih y520 σ515 hq hm H locs ls hG (lv_sub hl [1, 2, 3, 0] rfl)
        · have hq := hq.2 hc519
          refine lv_iconst (v := (0 : Int32)) hx hb dL_law_1379 (by decide) ?_
          obtain ⟨hz1, hz2, hq⟩ := hq
          exact absurd hq (by decide)
      have hq := hq.2 hs508
      by_cases hs521 : (xs i3.toNatClampNeg &&& (63 : Int32)) = (34 : Int32)
      · have hq := hq.1 hs521
        refine lv_tableIn (off := 1348) (tgt := 1381) hx hb dL_law_33 (by rw [hs521]; decide) (by rw [hs521]; decide) (by rw [hs521]; rfl) (by decide) ?_
        refine lv_aload_n hx hb dL_law_1381 rfl (lv_at hl 1 rfl) ?_
        obtain ⟨ho524, hq⟩ := hq
        obtain ⟨hf525, hf525b, hq⟩ := hq
        refine r_fi (r_V (As := []) (rest := []) ⟨hx, hb, hml, hown, ht⟩ (kX6_image E l σ a1 _ hq) mVX6_image q_819 rfl rfl ⟨Nat.le_of_ble_eq_true rfl, Nat.le_of_ble_eq_true rfl⟩ hO hG ho524 (cell_6 ho524.2.2) rfl rfl rfl hl.1 rfl (Nat.le_of_ble_eq_true rfl) dL_law_1382 ⟨(by show _ ≤ 600000; omega), (by show _ ≤ 7302249; omega)⟩) hG (fun r523 σ522 H locs hq hG => ?_)
        obtain ⟨eNσ522, eZσ522, hq⟩ := hq
        have hm : sN σ0 ≤ sN σ522 ∧ sZ σ0 ≤ sZ σ522 := ⟨by omega, by omega⟩
        refine W.widen (k := sN σ522 - sN σ0) (n := sZ σ522 - sZ σ0) (by omega) (by omega) ?_
        refine lv_aload_n hx hb dL_law_1385 rfl (lv_at hl 2 rfl) ?_
        obtain ⟨ho528, hq⟩ := hq
        obtain ⟨lm529, lm529a, lm529b, lm529c, lm529d, hq⟩ := hq
        refine r_fi (r_V (As := []) (rest := [.int r523]) ⟨hx, hb, hml, hown, ht⟩ (kX7_image E l lm529 σ522 a2 _ hq) mVX7_image q_1286 rfl rfl ⟨Nat.le_of_ble_eq_true rfl, Nat.le_of_ble_eq_true rfl⟩ hO hG ho528 (cell_7 ho528.2.2) rfl rfl rfl hl.1 rfl (Nat.le_of_ble_eq_true rfl) dL_law_1386 ⟨(by show _ ≤ 600000; omega), (by show _ ≤ 7302249; omega)⟩) hG (fun r527 σ526 H locs hq hG => ?_)
        obtain ⟨eNσ526, eZσ526, hq⟩ := hq
        have hm : sN σ0 ≤ sN σ526 ∧ sZ σ0 ≤ sZ σ526 := ⟨by omega, by omega⟩
        refine W.widen (k := sN σ526 - sN σ0) (n := sZ σ526 - sZ σ0) (by omega) (by omega) ?_
        refine lv_icmp_eq (tgt := 1430) hx hb dL_law_1389 (by decide) (fun hc530 => ?_) (fun hc530 => ?_)
        · have hq := hq.1 hc530
          obtain ⟨y531, ey531⟩ : ∃ y : Int32, y = i3 + (7 : Int32) := ⟨_, rfl⟩
          have hq := hq y531 ey531
          refine lv_iinc (v := y531) (lv' := [(3, .int y531), (0, .ref (gA E 0)), (1, .ref (gA E a1)), (2, .ref (gA E a2))]) hx hb dL_law_1430 hl (k := 3) rfl (by rw [ey531]; rfl) (by decide) rfl (fun ls hl => ?_)
          refine lv_goto (tgt := 18) hx hb dL_law_1433 (by decide) ?_
          exact ih y531 σ526 hq hm H locs ls hG (lv_sub hl [1, 2, 3, 0] rfl)
        · have hq := hq.2 hc530
          refine lv_iconst (v := (0 : Int32)) hx hb dL_law_1392 (by decide) ?_
          obtain ⟨hz1, hz2, hq⟩ := hq
          exact absurd hq (by decide)
      have hq := hq.2 hs521
      by_cases hs532 : (xs i3.toNatClampNeg &&& (63 : Int32)) = (35 : Int32)
      · have hq := hq.1 hs532
        refine lv_tableIn (off := 1361) (tgt := 1394) hx hb dL_law_33 (by rw [hs532]; decide) (by rw [hs532]; decide) (by rw [hs532]; rfl) (by decide) ?_
        refine lv_aload_n hx hb dL_law_1394 rfl (lv_at hl 1 rfl) ?_
        obtain ⟨ho535, hq⟩ := hq
        obtain ⟨hf536, hf536b, hq⟩ := hq
        refine r_fi (r_V (As := []) (rest := []) ⟨hx, hb, hml, hown, ht⟩ (kX6_back E l σ a1 _ hq) mVX6_back q_823 rfl rfl ⟨Nat.le_of_ble_eq_true rfl, Nat.le_of_ble_eq_true rfl⟩ hO hG ho535 (cell_6 ho535.2.2) rfl rfl rfl hl.1 rfl (Nat.le_of_ble_eq_true rfl) dL_law_1395 ⟨(by show _ ≤ 600000; omega), (by show _ ≤ 7302249; omega)⟩) hG (fun r534 σ533 H locs hq hG => ?_)
        obtain ⟨eNσ533, eZσ533, hq⟩ := hq
        have hm : sN σ0 ≤ sN σ533 ∧ sZ σ0 ≤ sZ σ533 := ⟨by omega, by omega⟩
        refine W.widen (k := sN σ533 - sN σ0) (n := sZ σ533 - sZ σ0) (by omega) (by omega) ?_
        refine lv_aload_n hx hb dL_law_1398 rfl (lv_at hl 2 rfl) ?_
        obtain ⟨ho539, hq⟩ := hq
        obtain ⟨hf540, hf540b, hq⟩ := hq
        refine r_fi (r_V (As := []) (rest := [.int r534]) ⟨hx, hb, hml, hown, ht⟩ (kX7_back E l σ533 a2 _ hq) mVX7_back q_1290 rfl rfl ⟨Nat.le_of_ble_eq_true rfl, Nat.le_of_ble_eq_true rfl⟩ hO hG ho539 (cell_7 ho539.2.2) rfl rfl rfl hl.1 rfl (Nat.le_of_ble_eq_true rfl) dL_law_1399 ⟨(by show _ ≤ 600000; omega), (by show _ ≤ 7302249; omega)⟩) hG (fun r538 σ537 H locs hq hG => ?_)
        obtain ⟨eNσ537, eZσ537, hq⟩ := hq
        have hm : sN σ0 ≤ sN σ537 ∧ sZ σ0 ≤ sZ σ537 := ⟨by omega, by omega⟩
        refine W.widen (k := sN σ537 - sN σ0) (n := sZ σ537 - sZ σ0) (by omega) (by omega) ?_
        refine lv_icmp_eq (tgt := 1430) hx hb dL_law_1402 (by decide) (fun hc541 => ?_) (fun hc541 => ?_)
        · have hq := hq.1 hc541
          obtain ⟨y542, ey542⟩ : ∃ y : Int32, y = i3 + (7 : Int32) := ⟨_, rfl⟩
          have hq := hq y542 ey542
          refine lv_iinc (v := y542) (lv' := [(3, .int y542), (0, .ref (gA E 0)), (1, .ref (gA E a1)), (2, .ref (gA E a2))]) hx hb dL_law_1430 hl (k := 3) rfl (by rw [ey542]; rfl) (by decide) rfl (fun ls hl => ?_)
          refine lv_goto (tgt := 18) hx hb dL_law_1433 (by decide) ?_
          exact ih y542 σ537 hq hm H locs ls hG (lv_sub hl [1, 2, 3, 0] rfl)
        · have hq := hq.2 hc541
          refine lv_iconst (v := (0 : Int32)) hx hb dL_law_1405 (by decide) ?_
          obtain ⟨hz1, hz2, hq⟩ := hq
          exact absurd hq (by decide)
      have hq := hq.2 hs532
      by_cases hs543 : (xs i3.toNatClampNeg &&& (63 : Int32)) = (36 : Int32)
      · have hq := hq.1 hs543
        refine lv_tableIn (off := 1374) (tgt := 1407) hx hb dL_law_33 (by rw [hs543]; decide) (by rw [hs543]; decide) (by rw [hs543]; rfl) (by decide) ?_
        refine lv_aload_n hx hb dL_law_1407 rfl (lv_at hl 1 rfl) ?_
        refine lv_aload_n hx hb dL_law_1408 rfl (lv_at hl 0 rfl) ?_
        refine lv_iload_n hx hb dL_law_1409 rfl (lv_at hl 3 rfl) ?_
        refine lv_iconst (v := (1 : Int32)) hx hb dL_law_1410 (by decide) ?_
        refine lv_iadd hx hb dL_law_1411 ?_
        obtain ⟨hi544, hq⟩ := hq
        refine va_sld hx hb hX hbl hbA hG.2 hi544 dL_law_1412 ?_
        obtain ⟨ho547, hq⟩ := hq
        obtain ⟨hf548, hf548b, hq⟩ := hq
        refine r_fi (r_V (As := [.int (xs (i3 + (1 : Int32)).toNatClampNeg)]) (rest := []) ⟨hx, hb, hml, hown, ht⟩ (kX6_status E l σ a1 (xs (i3 + (1 : Int32)).toNatClampNeg) _ hq) mVX6_status q_827 rfl rfl ⟨Nat.le_of_ble_eq_true rfl, Nat.le_of_ble_eq_true rfl⟩ hO hG ho547 (cell_6 ho547.2.2) rfl rfl rfl hl.1 rfl (Nat.le_of_ble_eq_true rfl) dL_law_1413 ⟨(by show _ ≤ 600000; omega), (by show _ ≤ 7302249; omega)⟩) hG (fun r546 σ545 H locs hq hG => ?_)
        obtain ⟨eNσ545, eZσ545, hq⟩ := hq
        have hm : sN σ0 ≤ sN σ545 ∧ sZ σ0 ≤ sZ σ545 := ⟨by omega, by omega⟩
        refine W.widen (k := sN σ545 - sN σ0) (n := sZ σ545 - sZ σ0) (by omega) (by omega) ?_
        refine lv_aload_n hx hb dL_law_1416 rfl (lv_at hl 2 rfl) ?_
        refine lv_aload_n hx hb dL_law_1417 rfl (lv_at hl 0 rfl) ?_
        refine lv_iload_n hx hb dL_law_1418 rfl (lv_at hl 3 rfl) ?_
        refine lv_iconst (v := (1 : Int32)) hx hb dL_law_1419 (by decide) ?_
        refine lv_iadd hx hb dL_law_1420 ?_
        obtain ⟨hi549, hq⟩ := hq
        refine va_sld hx hb hX hbl hbA hG.2 hi549 dL_law_1421 ?_
        obtain ⟨ho552, hq⟩ := hq
        obtain ⟨hf553, hf553b, hq⟩ := hq
        refine r_fi (r_V (As := [.int (xs (i3 + (1 : Int32)).toNatClampNeg)]) (rest := [.int r546]) ⟨hx, hb, hml, hown, ht⟩ (kX7_status E l σ545 a2 (xs (i3 + (1 : Int32)).toNatClampNeg) _ hq) mVX7_status q_1294 rfl rfl ⟨Nat.le_of_ble_eq_true rfl, Nat.le_of_ble_eq_true rfl⟩ hO hG ho552 (cell_7 ho552.2.2) rfl rfl rfl hl.1 rfl (Nat.le_of_ble_eq_true rfl) dL_law_1422 ⟨(by show _ ≤ 600000; omega), (by show _ ≤ 7302249; omega)⟩) hG (fun r551 σ550 H locs hq hG => ?_)
        obtain ⟨eNσ550, eZσ550, hq⟩ := hq
        have hm : sN σ0 ≤ sN σ550 ∧ sZ σ0 ≤ sZ σ550 := ⟨by omega, by omega⟩
        refine W.widen (k := sN σ550 - sN σ0) (n := sZ σ550 - sZ σ0) (by omega) (by omega) ?_
        refine lv_icmp_eq (tgt := 1430) hx hb dL_law_1425 (by decide) (fun hc554 => ?_) (fun hc554 => ?_)
        · have hq := hq.1 hc554
          obtain ⟨y555, ey555⟩ : ∃ y : Int32, y = i3 + (7 : Int32) := ⟨_, rfl⟩
          have hq := hq y555 ey555
          refine lv_iinc (v := y555) (lv' := [(3, .int y555), (0, .ref (gA E 0)), (1, .ref (gA E a1)), (2, .ref (gA E a2))]) hx hb dL_law_1430 hl (k := 3) rfl (by rw [ey555]; rfl) (by decide) rfl (fun ls hl => ?_)
          refine lv_goto (tgt := 18) hx hb dL_law_1433 (by decide) ?_
          exact ih y555 σ550 hq hm H locs ls hG (lv_sub hl [1, 2, 3, 0] rfl)
        · have hq := hq.2 hc554
          refine lv_iconst (v := (0 : Int32)) hx hb dL_law_1428 (by decide) ?_
          obtain ⟨hz1, hz2, hq⟩ := hq
          exact absurd hq (by decide)
      have hq := hq.2 hs543
      have hs3 := lv_neT hs3 (a := 0) (by decide)
      have hs20 := lv_neT hs20 (a := 1) (by decide)
      have hs39 := lv_neT hs39 (a := 2) (by decide)
      have hs60 := lv_neT hs60 (a := 3) (by decide)
      have hs75 := lv_neT hs75 (a := 4) (by decide)
      have hs88 := lv_neT hs88 (a := 5) (by decide)
      have hs105 := lv_neT hs105 (a := 6) (by decide)
      have hs120 := lv_neT hs120 (a := 7) (by decide)
      have hs143 := lv_neT hs143 (a := 8) (by decide)
      have hs158 := lv_neT hs158 (a := 9) (by decide)
      have hs175 := lv_neT hs175 (a := 10) (by decide)
      have hs190 := lv_neT hs190 (a := 11) (by decide)
      have hs205 := lv_neT hs205 (a := 12) (by decide)
      have hs220 := lv_neT hs220 (a := 13) (by decide)
      have hs231 := lv_neT hs231 (a := 14) (by decide)
      have hs242 := lv_neT hs242 (a := 15) (by decide)
      have hs255 := lv_neT hs255 (a := 16) (by decide)
      have hs268 := lv_neT hs268 (a := 17) (by decide)
      have hs283 := lv_neT hs283 (a := 18) (by decide)
      have hs298 := lv_neT hs298 (a := 19) (by decide)
      have hs311 := lv_neT hs311 (a := 20) (by decide)
      have hs324 := lv_neT hs324 (a := 21) (by decide)
      have hs341 := lv_neT hs341 (a := 22) (by decide)
      have hs354 := lv_neT hs354 (a := 23) (by decide)
      have hs369 := lv_neT hs369 (a := 24) (by decide)
      have hs384 := lv_neT hs384 (a := 25) (by decide)
      have hs397 := lv_neT hs397 (a := 26) (by decide)
      have hs412 := lv_neT hs412 (a := 27) (by decide)
      have hs431 := lv_neT hs431 (a := 28) (by decide)
      have hs448 := lv_neT hs448 (a := 29) (by decide)
      have hs461 := lv_neT hs461 (a := 30) (by decide)
      have hs478 := lv_neT hs478 (a := 31) (by decide)
      have hs493 := lv_neT hs493 (a := 32) (by decide)
      have hs508 := lv_neT hs508 (a := 33) (by decide)
      have hs521 := lv_neT hs521 (a := 34) (by decide)
      have hs532 := lv_neT hs532 (a := 35) (by decide)
      have hs543 := lv_neT hs543 (a := 36) (by decide)
      refine lv_tableOut (tgt := 1430) hx hb dL_law_33 (by omega) (by decide) ?_
      obtain ⟨y556, ey556⟩ : ∃ y : Int32, y = i3 + (7 : Int32) := ⟨_, rfl⟩
      have hq := hq y556 ey556
      refine lv_iinc (v := y556) (lv' := [(3, .int y556), (0, .ref (gA E 0)), (1, .ref (gA E a1)), (2, .ref (gA E a2))]) hx hb dL_law_1430 hl (k := 3) rfl (by rw [ey556]; rfl) (by decide) rfl (fun ls hl => ?_)
      refine lv_goto (tgt := 18) hx hb dL_law_1433 (by decide) ?_
      exact ih y556 σ hq hm H locs ls hG (lv_sub hl [1, 2, 3, 0] rfl)

set_option maxRecDepth 100000 in
set_option maxHeartbeats 4000000 in
theorem bL_law_0 {p : Program} {l : Launch} {e : Env} {s : State} {m : MethodId} {below : List Frame} {meth : Method} {c : Code} {b : Nat} (E : gE) (σ0 : Sto) (lim : Nat × Nat) (L : Nat) (xs : Nat → Int32) (C : CxL E p s m meth c σ0 lim b L xs) : ∀ (σ : Sto), pL_law lim L xs σ → (sN σ0 ≤ sN σ ∧ sZ σ0 ≤ sZ σ) → ∀ (H : Heap) (locs : List Loc) (ls : Array Slot), gH E σ s H locs → lv_has ls 4 [(0, .ref (gA E 0))] → W p l e room_1 s m #[Value.ref b] below meth c H locs (sN σ - sN σ0) (sZ σ - sZ σ0) (lw_Z below #[Value.ref b] s) (F0 m 0 ls []) := by
  obtain ⟨hx, hb, hml, hr, hown, ht, hlocks, hO, hX, hbl, hbA, hB, hlim⟩ := id C
  obtain ⟨hlim1, hlim2⟩ := hlim
  intro σ hq hm H locs ls hG hl
  unfold pL_law at hq
  obtain ⟨hc2, hc2z, hq⟩ := hq
  have h32σ1 := hG.1.1
  refine r_new (T := TX6) (N := 11) (ci := 6) (σ := σ) hx hb ht in_6 tyX6 tyX6_ok hown q_16 q_17 q_1 hO hG rfl (new_6 _ _) (by decide +kernel) (by show _ ≤ 600000; omega) (by show _ ≤ 7302249; omega) dL_law_0 (fun σ1 H eσ1 hG => ?_)
  have hq := hq σ1 eσ1
  have eNσ1 : sN σ1 = sN σ + 1 := by rw [eσ1]; rfl
  have eZσ1 : sZ σ1 = sZ σ + 11 := by rw [eσ1]; rfl
  have hm : sN σ0 ≤ sN σ1 ∧ sZ σ0 ≤ sZ σ1 := ⟨by omega, by omega⟩
  refine W.widen (k := sN σ1 - sN σ0) (n := sZ σ1 - sZ σ0) (by omega) (by omega) ?_
  refine lv_dup hx hb dL_law_3 rfl ?_
  obtain ⟨lm4, lm4a, lm4b, lm4c, lm4d, hq⟩ := hq
  refine r_fv (r_I (As := []) (rest := [.ref (gA E (sN σ))]) ⟨hx, hb, hml, hown, ht⟩ (kX6_init E l lm4 σ1 (sN σ) _ hq) mIX6_init q_18 rfl rfl ⟨Nat.le_of_ble_eq_true rfl, Nat.le_of_ble_eq_true rfl⟩ hO hG rfl hl.1 rfl (Nat.le_of_ble_eq_true rfl) dL_law_4 ⟨(by show _ ≤ 600000; omega), (by show _ ≤ 7302249; omega)⟩) hG (fun σ3 H locs hq hG => ?_)
  obtain ⟨eNσ3, eZσ3, hq⟩ := hq
  have hm : sN σ0 ≤ sN σ3 ∧ sZ σ0 ≤ sZ σ3 := ⟨by omega, by omega⟩
  refine W.widen (k := sN σ3 - sN σ0) (n := sZ σ3 - sZ σ0) (by omega) (by omega) ?_
  refine lv_astore_n (lv' := [(1, .ref (gA E (sN σ))), (0, .ref (gA E 0))]) hx hb dL_law_7 rfl hl (by decide) rfl (fun ls hl => ?_)
  obtain ⟨hc6, hc6z, hq⟩ := hq
  have h32σ5 := hG.1.1
  refine r_new (T := TX7) (N := 37) (ci := 7) (σ := σ3) hx hb ht in_7 tyX7 tyX7_ok hown q_835 q_836 q_9 hO hG rfl (new_7 _ _) (by decide +kernel) (by show _ ≤ 600000; omega) (by show _ ≤ 7302249; omega) dL_law_8 (fun σ5 H eσ5 hG => ?_)
  have hq := hq σ5 eσ5
  have eNσ5 : sN σ5 = sN σ3 + 1 := by rw [eσ5]; rfl
  have eZσ5 : sZ σ5 = sZ σ3 + 37 := by rw [eσ5]; rfl
  have hm : sN σ0 ≤ sN σ5 ∧ sZ σ0 ≤ sZ σ5 := ⟨by omega, by omega⟩
  refine W.widen (k := sN σ5 - sN σ0) (n := sZ σ5 - sZ σ0) (by omega) (by omega) ?_
  refine lv_dup hx hb dL_law_11 rfl ?_
  obtain ⟨lm8, lm8a, lm8b, lm8c, lm8d, hq⟩ := hq
  refine r_fv (r_I (As := []) (rest := [.ref (gA E (sN σ3))]) ⟨hx, hb, hml, hown, ht⟩ (kX7_init E l lm8 σ5 (sN σ3) _ hq) mIX7_init q_837 rfl rfl ⟨Nat.le_of_ble_eq_true rfl, Nat.le_of_ble_eq_true rfl⟩ hO hG rfl hl.1 rfl (Nat.le_of_ble_eq_true rfl) dL_law_12 ⟨(by show _ ≤ 600000; omega), (by show _ ≤ 7302249; omega)⟩) hG (fun σ7 H locs hq hG => ?_)
  obtain ⟨eNσ7, eZσ7, hq⟩ := hq
  have hm : sN σ0 ≤ sN σ7 ∧ sZ σ0 ≤ sZ σ7 := ⟨by omega, by omega⟩
  refine W.widen (k := sN σ7 - sN σ0) (n := sZ σ7 - sZ σ0) (by omega) (by omega) ?_
  refine lv_astore_n (lv' := [(2, .ref (gA E (sN σ3))), (1, .ref (gA E (sN σ))), (0, .ref (gA E 0))]) hx hb dL_law_15 rfl hl (by decide) rfl (fun ls hl => ?_)
  refine lv_iconst (v := (0 : Int32)) hx hb dL_law_16 (by decide) ?_
  refine lv_istore_n (lv' := [(3, .int (0 : Int32)), (2, .ref (gA E (sN σ3))), (1, .ref (gA E (sN σ))), (0, .ref (gA E 0))]) hx hb dL_law_17 rfl hl (by decide) rfl (fun ls hl => ?_)
  obtain ⟨k9, hq⟩ := hq
  exact bL_law_18 E σ0 lim L xs (sN σ) (sN σ3) C k9 (0 : Int32) σ7 hq hm H locs ls hG (lv_sub hl [3, 2, 1, 0] rfl)

