theorem fl_X6_10 : Cond.fieldLink RX6 10 (TX6 0).1 (TX6 0).2.1 (TX6 0).2.2.1 ∈ GW := gwp 167 (by decide +kernel) rfl
theorem fl_X6_25 : Cond.fieldLink RX6 25 (TX6 4).1 (TX6 4).2.1 (TX6 4).2.2.1 ∈ GW := gwp 171 (by decide +kernel) rfl
theorem fl_X6_32 : Cond.fieldLink RX6 32 (TX6 5).1 (TX6 5).2.1 (TX6 5).2.2.1 ∈ GW := gwp 172 (by decide +kernel) rfl
theorem fl_X6_39 : Cond.fieldLink RX6 39 (TX6 6).1 (TX6 6).2.1 (TX6 6).2.2.1 ∈ GW := gwp 173 (by decide +kernel) rfl
theorem fl_X6_43 : Cond.fieldLink RX6 43 (TX6 7).1 (TX6 7).2.1 (TX6 7).2.2.1 ∈ GW := gwp 174 (by decide +kernel) rfl
theorem fl_X6_50 : Cond.fieldLink RX6 50 (TX6 8).1 (TX6 8).2.1 (TX6 8).2.2.1 ∈ GW := gwp 175 (by decide +kernel) rfl
theorem fl_X6_57 : Cond.fieldLink RX6 57 (TX6 9).1 (TX6 9).2.1 (TX6 9).2.2.1 ∈ GW := gwp 176 (by decide +kernel) rfl
theorem fl_X6_61 : Cond.fieldLink RX6 61 (TX6 10).1 (TX6 10).2.1 (TX6 10).2.2.1 ∈ GW := gwp 177 (by decide +kernel) rfl
theorem kc_X6_314 : Cond.constant RX6 314 8388608 ∈ GW := gwp 1057 (by decide +kernel) rfl
theorem ml_X6_69 : Cond.methodLink RX6 69 yX6_requireFarm ∈ GW := gwp 576 (by decide +kernel) rfl
theorem ml_X6_73 : Cond.methodLink RX6 73 yX1_tollOf ∈ GW := gwp 319 (by decide +kernel) rfl
theorem ml_X6_77 : Cond.methodLink RX6 77 yX1_parentOf ∈ GW := gwp 209 (by decide +kernel) rfl
theorem ml_X6_80 : Cond.methodLink RX6 80 yX1_preferredOf ∈ GW := gwp 459 (by decide +kernel) rfl
theorem ml_X6_83 : Cond.methodLink RX6 83 yX1_depthOf ∈ GW := gwp 593 (by decide +kernel) rfl
theorem ml_X6_86 : Cond.methodLink RX6 86 yX1_childrenOf ∈ GW := gwp 597 (by decide +kernel) rfl
theorem ml_X6_89 : Cond.methodLink RX6 89 yX1_behindOf ∈ GW := gwp 601 (by decide +kernel) rfl
theorem ml_X6_92 : Cond.methodLink RX6 92 yX1_rootOf ∈ GW := gwp 448 (by decide +kernel) rfl
theorem ml_X6_102 : Cond.methodLink RX6 102 yX6_followWay ∈ GW := gwp 633 (by decide +kernel) rfl
theorem ml_X6_106 : Cond.methodLink RX6 106 yX5_tracks ∈ GW := gwp 286 (by decide +kernel) rfl
theorem ml_X6_110 : Cond.methodLink RX6 110 yX6_farmOnWay ∈ GW := gwp 660 (by decide +kernel) rfl
theorem ml_X6_113 : Cond.methodLink RX6 113 yX5_highestFarm ∈ GW := gwp 679 (by decide +kernel) rfl
theorem ml_X6_116 : Cond.methodLink RX6 116 yX1_tollsToRoot ∈ GW := gwp 690 (by decide +kernel) rfl
theorem ml_X6_119 : Cond.methodLink RX6 119 yX5_tollsIn ∈ GW := gwp 485 (by decide +kernel) rfl
theorem ml_X6_123 : Cond.methodLink RX6 123 yX5_farmAt ∈ GW := gwp 315 (by decide +kernel) rfl
theorem ml_X6_126 : Cond.methodLink RX6 126 yX5_farms ∈ GW := gwp 282 (by decide +kernel) rfl
theorem ml_X6_129 : Cond.methodLink RX6 129 yX1_areJoined ∈ GW := gwp 334 (by decide +kernel) rfl
theorem ml_X6_133 : Cond.methodLink RX6 133 yX1_hasTrack ∈ GW := gwp 294 (by decide +kernel) rfl
theorem ml_X6_136 : Cond.methodLink RX6 136 yX1_has ∈ GW := gwp 269 (by decide +kernel) rfl
theorem ml_X6_145 : Cond.methodLink RX6 145 yX5_follow ∈ GW := gwp 273 (by decide +kernel) rfl
theorem ml_X6_149 : Cond.methodLink RX6 149 yX5_preferencesToChange ∈ GW := gwp 467 (by decide +kernel) rfl
theorem ml_X6_152 : Cond.methodLink RX6 152 yX1_farms ∈ GW := gwp 205 (by decide +kernel) rfl
theorem ml_X6_153 : Cond.methodLink RX6 153 yX1_treeSizeOf ∈ GW := gwp 307 (by decide +kernel) rfl
theorem ml_X6_156 : Cond.methodLink RX6 156 yX6_farthestFrom ∈ GW := gwp 752 (by decide +kernel) rfl
theorem ml_X6_161 : Cond.methodLink RX6 161 yX1_childOfTrack ∈ GW := gwp 455 (by decide +kernel) rfl
theorem ml_X6_165 : Cond.methodLink RX6 165 yX6_isDrover ∈ GW := gwp 327 (by decide +kernel) rfl
theorem ml_X6_173 : Cond.methodLink RX6 173 yX1_farmOfDrover ∈ GW := gwp 330 (by decide +kernel) rfl
theorem ml_X6_178 : Cond.methodLink RX6 178 yX6_fillRankKeys ∈ GW := gwp 787 (by decide +kernel) rfl
theorem ml_X6_181 : Cond.methodLink RX6 181 yX6_farmsRankedAhead ∈ GW := gwp 791 (by decide +kernel) rfl
theorem ml_X6_184 : Cond.methodLink RX6 184 yX4_isFull ∈ GW := gwp 803 (by decide +kernel) rfl
theorem ml_X6_193 : Cond.methodLink RX6 193 yX4_add ∈ GW := gwp 823 (by decide +kernel) rfl
theorem ml_X6_197 : Cond.methodLink RX6 197 yX4_length ∈ GW := gwp 827 (by decide +kernel) rfl
theorem ml_X6_221 : Cond.methodLink RX6 221 yX3_isKept ∈ GW := gwp 963 (by decide +kernel) rfl
theorem ml_X6_226 : Cond.methodLink RX6 226 yX3_number ∈ GW := gwp 968 (by decide +kernel) rfl
theorem ml_X6_229 : Cond.methodLink RX6 229 yX3_detail ∈ GW := gwp 972 (by decide +kernel) rfl
theorem ml_X6_232 : Cond.methodLink RX6 232 yX3_command ∈ GW := gwp 976 (by decide +kernel) rfl
theorem ml_X6_235 : Cond.methodLink RX6 235 yX2_clear ∈ GW := gwp 987 (by decide +kernel) rfl
theorem ml_X6_236 : Cond.methodLink RX6 236 yX2_write ∈ GW := gwp 991 (by decide +kernel) rfl
theorem ml_X6_239 : Cond.methodLink RX6 239 yX2_writeNumber ∈ GW := gwp 995 (by decide +kernel) rfl
theorem ml_X6_242 : Cond.methodLink RX6 242 yX2_length ∈ GW := gwp 1000 (by decide +kernel) rfl
theorem ml_X6_249 : Cond.methodLink RX6 249 yX2_at ∈ GW := gwp 1022 (by decide +kernel) rfl
theorem ml_X6_258 : Cond.methodLink RX6 258 yX1_allTolls ∈ GW := gwp 1050 (by decide +kernel) rfl
theorem ml_X6_261 : Cond.methodLink RX6 261 yX6_bitsOf ∈ GW := gwp 1054 (by decide +kernel) rfl
theorem ml_X6_265 : Cond.methodLink RX6 265 yX1_drives ∈ GW := gwp 1065 (by decide +kernel) rfl
theorem ml_X6_270 : Cond.methodLink RX6 270 yX1_paid ∈ GW := gwp 1070 (by decide +kernel) rfl
theorem ml_X6_273 : Cond.methodLink RX6 273 yX6_trees ∈ GW := gwp 1081 (by decide +kernel) rfl
theorem ml_X6_276 : Cond.methodLink RX6 276 yX1_preferring ∈ GW := gwp 1082 (by decide +kernel) rfl
theorem ml_X6_279 : Cond.methodLink RX6 279 yX1_changedByExposing ∈ GW := gwp 1087 (by decide +kernel) rfl
theorem ml_X6_282 : Cond.methodLink RX6 282 yX1_exposings ∈ GW := gwp 1091 (by decide +kernel) rfl
theorem ml_X6_285 : Cond.methodLink RX6 285 yX0_count ∈ GW := gwp 1095 (by decide +kernel) rfl
theorem ml_X6_344 : Cond.methodLink RX6 344 yX6_refusesToBuild ∈ GW := gwp 250 (by decide +kernel) rfl
theorem ml_X6_347 : Cond.methodLink RX6 347 yX6_refusesToLay ∈ GW := gwp 261 (by decide +kernel) rfl
theorem ml_X6_350 : Cond.methodLink RX6 350 yX6_refusesToGiveUp ∈ GW := gwp 290 (by decide +kernel) rfl
theorem ml_X6_353 : Cond.methodLink RX6 353 yX6_refusesToRoot ∈ GW := gwp 299 (by decide +kernel) rfl
theorem ml_X6_356 : Cond.methodLink RX6 356 yX6_refusesFarm ∈ GW := gwp 265 (by decide +kernel) rfl
theorem ml_X6_359 : Cond.methodLink RX6 359 yX6_refusesToCharge ∈ GW := gwp 303 (by decide +kernel) rfl
theorem ml_X6_363 : Cond.methodLink RX6 363 yX6_refusesToDrive ∈ GW := gwp 323 (by decide +kernel) rfl
theorem ml_X6_366 : Cond.methodLink RX6 366 yX1_build ∈ GW := gwp 428 (by decide +kernel) rfl
theorem ml_X6_369 : Cond.methodLink RX6 369 yX6_layTrack ∈ GW := gwp 440 (by decide +kernel) rfl
theorem ml_X6_372 : Cond.methodLink RX6 372 yX6_giveTrackUp ∈ GW := gwp 451 (by decide +kernel) rfl
theorem ml_X6_375 : Cond.methodLink RX6 375 yX6_rootAnew ∈ GW := gwp 444 (by decide +kernel) rfl
theorem ml_X6_378 : Cond.methodLink RX6 378 yX6_exposeFarm ∈ GW := gwp 463 (by decide +kernel) rfl
theorem ml_X6_381 : Cond.methodLink RX6 381 yX6_chargeWay ∈ GW := gwp 477 (by decide +kernel) rfl
theorem ml_X6_385 : Cond.methodLink RX6 385 yX6_driveTo ∈ GW := gwp 490 (by decide +kernel) rfl
theorem ml_X6_388 : Cond.methodLink RX6 388 yX3_keep ∈ GW := gwp 257 (by decide +kernel) rfl
theorem ml_X6_390 : Cond.methodLink RX6 390 yX6_isToll ∈ GW := gwp 254 (by decide +kernel) rfl
theorem ml_X6_393 : Cond.methodLink RX6 393 yX1_setParent ∈ GW := gwp 449 (by decide +kernel) rfl
theorem ml_X6_396 : Cond.methodLink RX6 396 yX1_prefer ∈ GW := gwp 450 (by decide +kernel) rfl
theorem ml_X6_399 : Cond.methodLink RX6 399 yX1_countExposing ∈ GW := gwp 473 (by decide +kernel) rfl
theorem ml_X6_402 : Cond.methodLink RX6 402 yX1_chargeMore ∈ GW := gwp 481 (by decide +kernel) rfl
theorem ml_X6_405 : Cond.methodLink RX6 405 yX1_setFarmOfDrover ∈ GW := gwp 494 (by decide +kernel) rfl
theorem ml_X6_408 : Cond.methodLink RX6 408 yX1_countDrive ∈ GW := gwp 498 (by decide +kernel) rfl
theorem cw_X0_count : CwV RX0 yX0_count cX0_count 1 (some .int) 0 := ⟨gwp 1098 (by decide +kernel) rfl, gwp 1096 (by decide +kernel) rfl, gwp 1097 (by decide +kernel) rfl, gwp 4 (by decide +kernel) rfl, by decide +kernel⟩
theorem cw_X1_allTolls : CwV RX1 yX1_allTolls cX1_allTolls 3 (some .int) 0 := ⟨gwp 1053 (by decide +kernel) rfl, gwp 1051 (by decide +kernel) rfl, gwp 1052 (by decide +kernel) rfl, gwp 2 (by decide +kernel) rfl, by decide +kernel⟩
theorem cw_X1_areJoined : CwV RX1 yX1_areJoined cX1_areJoined 3 (some .boolean) 2 := ⟨gwp 337 (by decide +kernel) rfl, gwp 335 (by decide +kernel) rfl, gwp 336 (by decide +kernel) rfl, gwp 2 (by decide +kernel) rfl, by decide +kernel⟩
theorem cw_X1_behindOf : CwV RX1 yX1_behindOf cX1_behindOf 4 (some .int) 1 := ⟨gwp 604 (by decide +kernel) rfl, gwp 602 (by decide +kernel) rfl, gwp 603 (by decide +kernel) rfl, gwp 2 (by decide +kernel) rfl, by decide +kernel⟩
theorem cw_X1_build : CwV RX1 yX1_build cX1_build 3 (some .int) 1 := ⟨gwp 431 (by decide +kernel) rfl, gwp 429 (by decide +kernel) rfl, gwp 430 (by decide +kernel) rfl, gwp 2 (by decide +kernel) rfl, by decide +kernel⟩
theorem cw_X1_changedByExposing : CwV RX1 yX1_changedByExposing cX1_changedByExposing 1 (some .int) 0 := ⟨gwp 1090 (by decide +kernel) rfl, gwp 1088 (by decide +kernel) rfl, gwp 1089 (by decide +kernel) rfl, gwp 2 (by decide +kernel) rfl, by decide +kernel⟩
theorem cw_X1_chargeMore : CwV RX1 yX1_chargeMore cX1_chargeMore 3 none 2 := ⟨gwp 484 (by decide +kernel) rfl, gwp 482 (by decide +kernel) rfl, gwp 483 (by decide +kernel) rfl, gwp 2 (by decide +kernel) rfl, by decide +kernel⟩
theorem cw_X1_childOfTrack : CwV RX1 yX1_childOfTrack cX1_childOfTrack 3 (some .int) 2 := ⟨gwp 458 (by decide +kernel) rfl, gwp 456 (by decide +kernel) rfl, gwp 457 (by decide +kernel) rfl, gwp 2 (by decide +kernel) rfl, by decide +kernel⟩
theorem cw_X1_childrenOf : CwV RX1 yX1_childrenOf cX1_childrenOf 4 (some .int) 1 := ⟨gwp 600 (by decide +kernel) rfl, gwp 598 (by decide +kernel) rfl, gwp 599 (by decide +kernel) rfl, gwp 2 (by decide +kernel) rfl, by decide +kernel⟩
theorem cw_X1_countDrive : CwV RX1 yX1_countDrive cX1_countDrive 2 none 1 := ⟨gwp 501 (by decide +kernel) rfl, gwp 499 (by decide +kernel) rfl, gwp 500 (by decide +kernel) rfl, gwp 2 (by decide +kernel) rfl, by decide +kernel⟩
theorem cw_X1_countExposing : CwV RX1 yX1_countExposing cX1_countExposing 2 none 1 := ⟨gwp 476 (by decide +kernel) rfl, gwp 474 (by decide +kernel) rfl, gwp 475 (by decide +kernel) rfl, gwp 2 (by decide +kernel) rfl, by decide +kernel⟩
theorem cw_X1_depthOf : CwV RX1 yX1_depthOf cX1_depthOf 4 (some .int) 1 := ⟨gwp 596 (by decide +kernel) rfl, gwp 594 (by decide +kernel) rfl, gwp 595 (by decide +kernel) rfl, gwp 2 (by decide +kernel) rfl, by decide +kernel⟩
theorem cw_X1_drives : CwV RX1 yX1_drives cX1_drives 1 (some .int) 0 := ⟨gwp 1068 (by decide +kernel) rfl, gwp 1066 (by decide +kernel) rfl, gwp 1067 (by decide +kernel) rfl, gwp 2 (by decide +kernel) rfl, by decide +kernel⟩
theorem cw_X1_exposings : CwV RX1 yX1_exposings cX1_exposings 1 (some .int) 0 := ⟨gwp 1094 (by decide +kernel) rfl, gwp 1092 (by decide +kernel) rfl, gwp 1093 (by decide +kernel) rfl, gwp 2 (by decide +kernel) rfl, by decide +kernel⟩
theorem cw_X1_farmOfDrover : CwV RX1 yX1_farmOfDrover cX1_farmOfDrover 2 (some .int) 1 := ⟨gwp 333 (by decide +kernel) rfl, gwp 331 (by decide +kernel) rfl, gwp 332 (by decide +kernel) rfl, gwp 2 (by decide +kernel) rfl, by decide +kernel⟩
theorem cw_X1_farms : CwV RX1 yX1_farms cX1_farms 1 (some .int) 0 := ⟨gwp 208 (by decide +kernel) rfl, gwp 206 (by decide +kernel) rfl, gwp 207 (by decide +kernel) rfl, gwp 2 (by decide +kernel) rfl, by decide +kernel⟩
theorem cw_X1_has : CwV RX1 yX1_has cX1_has 2 (some .boolean) 1 := ⟨gwp 272 (by decide +kernel) rfl, gwp 270 (by decide +kernel) rfl, gwp 271 (by decide +kernel) rfl, gwp 2 (by decide +kernel) rfl, by decide +kernel⟩
theorem cw_X1_hasTrack : CwV RX1 yX1_hasTrack cX1_hasTrack 3 (some .boolean) 2 := ⟨gwp 297 (by decide +kernel) rfl, gwp 295 (by decide +kernel) rfl, gwp 296 (by decide +kernel) rfl, gwp 2 (by decide +kernel) rfl, by decide +kernel⟩
theorem cw_X1_paid : CwV RX1 yX1_paid cX1_paid 1 (some .int) 0 := ⟨gwp 1073 (by decide +kernel) rfl, gwp 1071 (by decide +kernel) rfl, gwp 1072 (by decide +kernel) rfl, gwp 2 (by decide +kernel) rfl, by decide +kernel⟩
theorem cw_X1_preferring : CwV RX1 yX1_preferring cX1_preferring 3 (some .int) 0 := ⟨gwp 1085 (by decide +kernel) rfl, gwp 1083 (by decide +kernel) rfl, gwp 1084 (by decide +kernel) rfl, gwp 2 (by decide +kernel) rfl, by decide +kernel⟩
theorem cw_X1_setFarmOfDrover : CwV RX1 yX1_setFarmOfDrover cX1_setFarmOfDrover 3 none 2 := ⟨gwp 497 (by decide +kernel) rfl, gwp 495 (by decide +kernel) rfl, gwp 496 (by decide +kernel) rfl, gwp 2 (by decide +kernel) rfl, by decide +kernel⟩
theorem cw_X1_tollsToRoot : CwV RX1 yX1_tollsToRoot cX1_tollsToRoot 5 (some .int) 1 := ⟨gwp 693 (by decide +kernel) rfl, gwp 691 (by decide +kernel) rfl, gwp 692 (by decide +kernel) rfl, gwp 2 (by decide +kernel) rfl, by decide +kernel⟩
theorem cw_X1_treeSizeOf : CwV RX1 yX1_treeSizeOf cX1_treeSizeOf 5 (some .int) 1 := ⟨gwp 310 (by decide +kernel) rfl, gwp 308 (by decide +kernel) rfl, gwp 309 (by decide +kernel) rfl, gwp 2 (by decide +kernel) rfl, by decide +kernel⟩
theorem cw_X2_at : CwV RX2 yX2_at cX2_at 2 (some .char) 1 := ⟨gwp 1025 (by decide +kernel) rfl, gwp 1023 (by decide +kernel) rfl, gwp 1024 (by decide +kernel) rfl, gwp 7 (by decide +kernel) rfl, by decide +kernel⟩
theorem cw_X2_clear : CwV RX2 yX2_clear cX2_clear 1 none 0 := ⟨gwp 990 (by decide +kernel) rfl, gwp 988 (by decide +kernel) rfl, gwp 989 (by decide +kernel) rfl, gwp 7 (by decide +kernel) rfl, by decide +kernel⟩
theorem cw_X2_length : CwV RX2 yX2_length cX2_length 1 (some .int) 0 := ⟨gwp 1003 (by decide +kernel) rfl, gwp 1001 (by decide +kernel) rfl, gwp 1002 (by decide +kernel) rfl, gwp 7 (by decide +kernel) rfl, by decide +kernel⟩
theorem cw_X2_writeNumber : CwV RX2 yX2_writeNumber cX2_writeNumber 2 none 1 := ⟨gwp 998 (by decide +kernel) rfl, gwp 996 (by decide +kernel) rfl, gwp 997 (by decide +kernel) rfl, gwp 7 (by decide +kernel) rfl, by decide +kernel⟩
theorem cw_X3_command : CwV RX3 yX3_command cX3_command 1 (some .int) 0 := ⟨gwp 979 (by decide +kernel) rfl, gwp 977 (by decide +kernel) rfl, gwp 978 (by decide +kernel) rfl, gwp 5 (by decide +kernel) rfl, by decide +kernel⟩
theorem cw_X3_detail : CwV RX3 yX3_detail cX3_detail 1 (some .int) 0 := ⟨gwp 975 (by decide +kernel) rfl, gwp 973 (by decide +kernel) rfl, gwp 974 (by decide +kernel) rfl, gwp 5 (by decide +kernel) rfl, by decide +kernel⟩
theorem cw_X3_isKept : CwV RX3 yX3_isKept cX3_isKept 1 (some .boolean) 0 := ⟨gwp 966 (by decide +kernel) rfl, gwp 964 (by decide +kernel) rfl, gwp 965 (by decide +kernel) rfl, gwp 5 (by decide +kernel) rfl, by decide +kernel⟩
theorem cw_X3_keep : CwV RX3 yX3_keep cX3_keep 3 (some .boolean) 2 := ⟨gwp 260 (by decide +kernel) rfl, gwp 258 (by decide +kernel) rfl, gwp 259 (by decide +kernel) rfl, gwp 5 (by decide +kernel) rfl, by decide +kernel⟩
theorem cw_X3_number : CwV RX3 yX3_number cX3_number 1 (some .int) 0 := ⟨gwp 971 (by decide +kernel) rfl, gwp 969 (by decide +kernel) rfl, gwp 970 (by decide +kernel) rfl, gwp 5 (by decide +kernel) rfl, by decide +kernel⟩
theorem cw_X4_add : CwV RX4 yX4_add cX4_add 2 none 1 := ⟨gwp 826 (by decide +kernel) rfl, gwp 824 (by decide +kernel) rfl, gwp 825 (by decide +kernel) rfl, gwp 6 (by decide +kernel) rfl, by decide +kernel⟩
theorem cw_X4_isFull : CwV RX4 yX4_isFull cX4_isFull 1 (some .boolean) 0 := ⟨gwp 806 (by decide +kernel) rfl, gwp 804 (by decide +kernel) rfl, gwp 805 (by decide +kernel) rfl, gwp 6 (by decide +kernel) rfl, by decide +kernel⟩
theorem cw_X4_length : CwV RX4 yX4_length cX4_length 1 (some .int) 0 := ⟨gwp 830 (by decide +kernel) rfl, gwp 828 (by decide +kernel) rfl, gwp 829 (by decide +kernel) rfl, gwp 6 (by decide +kernel) rfl, by decide +kernel⟩
theorem cw_X5_farms : CwV RX5 yX5_farms cX5_farms 1 (some .int) 0 := ⟨gwp 285 (by decide +kernel) rfl, gwp 283 (by decide +kernel) rfl, gwp 284 (by decide +kernel) rfl, gwp 8 (by decide +kernel) rfl, by decide +kernel⟩
theorem cw_X5_follow : CwV RX5 yX5_follow cX5_follow 8 none 3 := ⟨gwp 276 (by decide +kernel) rfl, gwp 274 (by decide +kernel) rfl, gwp 275 (by decide +kernel) rfl, gwp 8 (by decide +kernel) rfl, by decide +kernel⟩
theorem cw_X5_highestFarm : CwV RX5 yX5_highestFarm cX5_highestFarm 1 (some .int) 0 := ⟨gwp 682 (by decide +kernel) rfl, gwp 680 (by decide +kernel) rfl, gwp 681 (by decide +kernel) rfl, gwp 8 (by decide +kernel) rfl, by decide +kernel⟩
theorem cw_X5_preferencesToChange : CwV RX5 yX5_preferencesToChange cX5_preferencesToChange 4 (some .int) 1 := ⟨gwp 470 (by decide +kernel) rfl, gwp 468 (by decide +kernel) rfl, gwp 469 (by decide +kernel) rfl, gwp 8 (by decide +kernel) rfl, by decide +kernel⟩
theorem cw_X5_tollsIn : CwV RX5 yX5_tollsIn cX5_tollsIn 4 (some .int) 1 := ⟨gwp 488 (by decide +kernel) rfl, gwp 486 (by decide +kernel) rfl, gwp 487 (by decide +kernel) rfl, gwp 8 (by decide +kernel) rfl, by decide +kernel⟩
theorem cw_X5_tracks : CwV RX5 yX5_tracks cX5_tracks 1 (some .int) 0 := ⟨gwp 289 (by decide +kernel) rfl, gwp 287 (by decide +kernel) rfl, gwp 288 (by decide +kernel) rfl, gwp 8 (by decide +kernel) rfl, by decide +kernel⟩
theorem cw_X6_bitsOf : CwS RX6 yX6_bitsOf cX6_bitsOf 5 (some .int) 1 := ⟨gwp 1056 (by decide +kernel) rfl, gwp 1055 (by decide +kernel) rfl, gwp 1 (by decide +kernel) rfl, by decide +kernel⟩
theorem cw_X6_chargeWay : CwV RX6 yX6_chargeWay cX6_chargeWay 5 (some .int) 3 := ⟨gwp 480 (by decide +kernel) rfl, gwp 479 (by decide +kernel) rfl, gws (q := (yX6_chargeWay, 11)) 17 (by decide +kernel), gwp 1 (by decide +kernel) rfl, by decide +kernel⟩
theorem cw_X6_driveTo : CwV RX6 yX6_driveTo cX6_driveTo 5 (some .int) 2 := ⟨gwp 493 (by decide +kernel) rfl, gwp 492 (by decide +kernel) rfl, gws (q := (yX6_driveTo, 11)) 18 (by decide +kernel), gwp 1 (by decide +kernel) rfl, by decide +kernel⟩
theorem cw_X6_exposeFarm : CwV RX6 yX6_exposeFarm cX6_exposeFarm 4 (some .int) 1 := ⟨gwp 466 (by decide +kernel) rfl, gwp 465 (by decide +kernel) rfl, gws (q := (yX6_exposeFarm, 11)) 16 (by decide +kernel), gwp 1 (by decide +kernel) rfl, by decide +kernel⟩
theorem cw_X6_farmOnWay : CwV RX6 yX6_farmOnWay cX6_farmOnWay 2 (some .int) 1 := ⟨gwp 663 (by decide +kernel) rfl, gwp 662 (by decide +kernel) rfl, gws (q := (yX6_farmOnWay, 11)) 22 (by decide +kernel), gwp 1 (by decide +kernel) rfl, by decide +kernel⟩
theorem cw_X6_farmsRankedAhead : CwV RX6 yX6_farmsRankedAhead cX6_farmsRankedAhead 4 (some .int) 1 := ⟨gwp 794 (by decide +kernel) rfl, gwp 793 (by decide +kernel) rfl, gws (q := (yX6_farmsRankedAhead, 11)) 25 (by decide +kernel), gwp 1 (by decide +kernel) rfl, by decide +kernel⟩
theorem cw_X6_farthestFrom : CwV RX6 yX6_farthestFrom cX6_farthestFrom 5 (some .int) 1 := ⟨gwp 755 (by decide +kernel) rfl, gwp 754 (by decide +kernel) rfl, gws (q := (yX6_farthestFrom, 11)) 23 (by decide +kernel), gwp 1 (by decide +kernel) rfl, by decide +kernel⟩
theorem cw_X6_fillRankKeys : CwV RX6 yX6_fillRankKeys cX6_fillRankKeys 3 none 0 := ⟨gwp 790 (by decide +kernel) rfl, gwp 789 (by decide +kernel) rfl, gws (q := (yX6_fillRankKeys, 11)) 24 (by decide +kernel), gwp 1 (by decide +kernel) rfl, by decide +kernel⟩
theorem cw_X6_followWay : CwV RX6 yX6_followWay cX6_followWay 3 none 2 := ⟨gwp 636 (by decide +kernel) rfl, gwp 635 (by decide +kernel) rfl, gws (q := (yX6_followWay, 11)) 21 (by decide +kernel), gwp 1 (by decide +kernel) rfl, by decide +kernel⟩
theorem cw_X6_giveTrackUp : CwV RX6 yX6_giveTrackUp cX6_giveTrackUp 5 (some .int) 2 := ⟨gwp 454 (by decide +kernel) rfl, gwp 453 (by decide +kernel) rfl, gws (q := (yX6_giveTrackUp, 11)) 15 (by decide +kernel), gwp 1 (by decide +kernel) rfl, by decide +kernel⟩
theorem cw_X6_isDrover : CwS RX6 yX6_isDrover cX6_isDrover 1 (some .boolean) 1 := ⟨gwp 329 (by decide +kernel) rfl, gwp 328 (by decide +kernel) rfl, gwp 1 (by decide +kernel) rfl, by decide +kernel⟩
theorem cw_X6_isToll : CwS RX6 yX6_isToll cX6_isToll 1 (some .boolean) 1 := ⟨gwp 256 (by decide +kernel) rfl, gwp 255 (by decide +kernel) rfl, gwp 1 (by decide +kernel) rfl, by decide +kernel⟩
theorem cw_X6_layTrack : CwV RX6 yX6_layTrack cX6_layTrack 3 (some .int) 2 := ⟨gwp 443 (by decide +kernel) rfl, gwp 442 (by decide +kernel) rfl, gws (q := (yX6_layTrack, 11)) 13 (by decide +kernel), gwp 1 (by decide +kernel) rfl, by decide +kernel⟩
theorem cw_X6_refusesFarm : CwV RX6 yX6_refusesFarm cX6_refusesFarm 2 (some .boolean) 1 := ⟨gwp 268 (by decide +kernel) rfl, gwp 267 (by decide +kernel) rfl, gws (q := (yX6_refusesFarm, 11)) 4 (by decide +kernel), gwp 1 (by decide +kernel) rfl, by decide +kernel⟩
theorem cw_X6_refusesToBuild : CwV RX6 yX6_refusesToBuild cX6_refusesToBuild 2 (some .boolean) 1 := ⟨gwp 253 (by decide +kernel) rfl, gwp 252 (by decide +kernel) rfl, gws (q := (yX6_refusesToBuild, 11)) 2 (by decide +kernel), gwp 1 (by decide +kernel) rfl, by decide +kernel⟩
theorem cw_X6_refusesToCharge : CwV RX6 yX6_refusesToCharge cX6_refusesToCharge 6 (some .boolean) 3 := ⟨gwp 306 (by decide +kernel) rfl, gwp 305 (by decide +kernel) rfl, gws (q := (yX6_refusesToCharge, 11)) 8 (by decide +kernel), gwp 1 (by decide +kernel) rfl, by decide +kernel⟩
theorem cw_X6_refusesToDrive : CwV RX6 yX6_refusesToDrive cX6_refusesToDrive 5 (some .boolean) 2 := ⟨gwp 326 (by decide +kernel) rfl, gwp 325 (by decide +kernel) rfl, gws (q := (yX6_refusesToDrive, 11)) 9 (by decide +kernel), gwp 1 (by decide +kernel) rfl, by decide +kernel⟩
theorem cw_X6_refusesToGiveUp : CwV RX6 yX6_refusesToGiveUp cX6_refusesToGiveUp 3 (some .boolean) 2 := ⟨gwp 293 (by decide +kernel) rfl, gwp 292 (by decide +kernel) rfl, gws (q := (yX6_refusesToGiveUp, 11)) 6 (by decide +kernel), gwp 1 (by decide +kernel) rfl, by decide +kernel⟩
theorem cw_X6_refusesToLay : CwV RX6 yX6_refusesToLay cX6_refusesToLay 3 (some .boolean) 2 := ⟨gwp 264 (by decide +kernel) rfl, gwp 263 (by decide +kernel) rfl, gws (q := (yX6_refusesToLay, 11)) 3 (by decide +kernel), gwp 1 (by decide +kernel) rfl, by decide +kernel⟩
theorem cw_X6_refusesToRoot : CwV RX6 yX6_refusesToRoot cX6_refusesToRoot 2 (some .boolean) 1 := ⟨gwp 302 (by decide +kernel) rfl, gwp 301 (by decide +kernel) rfl, gws (q := (yX6_refusesToRoot, 11)) 7 (by decide +kernel), gwp 1 (by decide +kernel) rfl, by decide +kernel⟩
theorem cw_X6_requireFarm : CwV RX6 yX6_requireFarm cX6_requireFarm 2 none 1 := ⟨gwp 579 (by decide +kernel) rfl, gwp 578 (by decide +kernel) rfl, gws (q := (yX6_requireFarm, 11)) 19 (by decide +kernel), gwp 1 (by decide +kernel) rfl, by decide +kernel⟩
theorem cw_X6_rootAnew : CwV RX6 yX6_rootAnew cX6_rootAnew 4 (some .int) 1 := ⟨gwp 447 (by decide +kernel) rfl, gwp 446 (by decide +kernel) rfl, gws (q := (yX6_rootAnew, 11)) 14 (by decide +kernel), gwp 1 (by decide +kernel) rfl, by decide +kernel⟩
theorem cw_X6_trees : CwV RX6 yX6_trees cX6_trees 3 (some .int) 0 := ⟨gwp 204 (by decide +kernel) rfl, gwp 202 (by decide +kernel) rfl, gwp 203 (by decide +kernel) rfl, gwp 1 (by decide +kernel) rfl, by decide +kernel⟩
set_option maxRecDepth 20000 in
theorem th_X6_95_97_99 : ThOK RX6 "java/lang/IllegalArgumentException" "a farm has no such number" ["java/lang/RuntimeException", "java/lang/Exception"] 95 97 99 := ⟨by decide +kernel, by decide +kernel, gwp 609 (by decide +kernel) rfl, gwp 19 (by decide +kernel) rfl, List.mem_of_getElem? (i := 618) (by decide +kernel), by decide +kernel, by decide +kernel, List.mem_of_getElem? (i := 611) (by decide +kernel), by decide +kernel⟩
set_option maxRecDepth 20000 in
theorem th_X6_95_219_99 : ThOK RX6 "java/lang/IllegalArgumentException" "a reason has no such number" ["java/lang/RuntimeException", "java/lang/Exception"] 95 219 99 := ⟨by decide +kernel, by decide +kernel, gwp 609 (by decide +kernel) rfl, gwp 19 (by decide +kernel) rfl, List.mem_of_getElem? (i := 962) (by decide +kernel), by decide +kernel, by decide +kernel, List.mem_of_getElem? (i := 611) (by decide +kernel), by decide +kernel⟩
set_option maxRecDepth 20000 in
theorem th_X6_95_288_99 : ThOK RX6 "java/lang/IllegalArgumentException" "there is no such account" ["java/lang/RuntimeException", "java/lang/Exception"] 95 288 99 := ⟨by decide +kernel, by decide +kernel, gwp 609 (by decide +kernel) rfl, gwp 19 (by decide +kernel) rfl, List.mem_of_getElem? (i := 1099) (by decide +kernel), by decide +kernel, by decide +kernel, List.mem_of_getElem? (i := 611) (by decide +kernel), by decide +kernel⟩
set_option maxRecDepth 20000 in
theorem th_X6_140_142_144 : ThOKN RX6 "java/util/NoSuchElementException" "the exposed way has no such place" "java/lang/RuntimeException" ["java/lang/Exception"] 140 142 144 13 prog_32_method_4_code := ⟨by decide +kernel, by decide +kernel, gwp 637 (by decide +kernel) rfl, gwp 20 (by decide +kernel) rfl, List.mem_of_getElem? (i := 730) (by decide +kernel), by decide +kernel, by decide +kernel, List.mem_of_getElem? (i := 639) (by decide +kernel), by decide +kernel, by decide +kernel, by decide +kernel, by decide +kernel, by decide +kernel⟩
set_option maxRecDepth 20000 in
theorem th_X6_140_159_144 : ThOKN RX6 "java/util/NoSuchElementException" "there is no track between the farms" "java/lang/RuntimeException" ["java/lang/Exception"] 140 159 144 13 prog_32_method_4_code := ⟨by decide +kernel, by decide +kernel, gwp 637 (by decide +kernel) rfl, gwp 20 (by decide +kernel) rfl, List.mem_of_getElem? (i := 770) (by decide +kernel), by decide +kernel, by decide +kernel, List.mem_of_getElem? (i := 639) (by decide +kernel), by decide +kernel, by decide +kernel, by decide +kernel, by decide +kernel, by decide +kernel⟩
set_option maxRecDepth 20000 in
theorem th_X6_140_176_144 : ThOKN RX6 "java/util/NoSuchElementException" "there is no such place" "java/lang/RuntimeException" ["java/lang/Exception"] 140 176 144 13 prog_32_method_4_code := ⟨by decide +kernel, by decide +kernel, gwp 637 (by decide +kernel) rfl, gwp 20 (by decide +kernel) rfl, List.mem_of_getElem? (i := 786) (by decide +kernel), by decide +kernel, by decide +kernel, List.mem_of_getElem? (i := 639) (by decide +kernel), by decide +kernel, by decide +kernel, by decide +kernel, by decide +kernel, by decide +kernel⟩
set_option maxRecDepth 20000 in
theorem th_X6_140_224_144 : ThOKN RX6 "java/util/NoSuchElementException" "nothing was refused" "java/lang/RuntimeException" ["java/lang/Exception"] 140 224 144 13 prog_32_method_4_code := ⟨by decide +kernel, by decide +kernel, gwp 637 (by decide +kernel) rfl, gwp 20 (by decide +kernel) rfl, List.mem_of_getElem? (i := 967) (by decide +kernel), by decide +kernel, by decide +kernel, List.mem_of_getElem? (i := 639) (by decide +kernel), by decide +kernel, by decide +kernel, by decide +kernel, by decide +kernel, by decide +kernel⟩
set_option maxRecDepth 20000 in
theorem th_X6_140_310_144 : ThOKN RX6 "java/util/NoSuchElementException" "the farms are in unlike trees" "java/lang/RuntimeException" ["java/lang/Exception"] 140 310 144 13 prog_32_method_4_code := ⟨by decide +kernel, by decide +kernel, gwp 637 (by decide +kernel) rfl, gwp 20 (by decide +kernel) rfl, List.mem_of_getElem? (i := 646) (by decide +kernel), by decide +kernel, by decide +kernel, List.mem_of_getElem? (i := 639) (by decide +kernel), by decide +kernel, by decide +kernel, by decide +kernel, by decide +kernel, by decide +kernel⟩
set_option maxRecDepth 20000 in
theorem th_X6_140_312_144 : ThOKN RX6 "java/util/NoSuchElementException" "the way has no such place" "java/lang/RuntimeException" ["java/lang/Exception"] 140 312 144 13 prog_32_method_4_code := ⟨by decide +kernel, by decide +kernel, gwp 637 (by decide +kernel) rfl, gwp 20 (by decide +kernel) rfl, List.mem_of_getElem? (i := 664) (by decide +kernel), by decide +kernel, by decide +kernel, List.mem_of_getElem? (i := 639) (by decide +kernel), by decide +kernel, by decide +kernel, by decide +kernel, by decide +kernel, by decide +kernel⟩
set_option maxRecDepth 20000 in
theorem th_X6_168_170_172 : ThOK RX6 "java/lang/IndexOutOfBoundsException" "there is no such drover" ["java/lang/RuntimeException", "java/lang/Exception"] 168 170 172 := ⟨by decide +kernel, by decide +kernel, gwp 580 (by decide +kernel) rfl, gwp 16 (by decide +kernel) rfl, List.mem_of_getElem? (i := 778) (by decide +kernel), by decide +kernel, by decide +kernel, List.mem_of_getElem? (i := 582) (by decide +kernel), by decide +kernel⟩
set_option maxRecDepth 20000 in
theorem th_X6_168_247_172 : ThOK RX6 "java/lang/IndexOutOfBoundsException" "the line has no such index" ["java/lang/RuntimeException", "java/lang/Exception"] 168 247 172 := ⟨by decide +kernel, by decide +kernel, gwp 580 (by decide +kernel) rfl, gwp 16 (by decide +kernel) rfl, List.mem_of_getElem? (i := 1021) (by decide +kernel), by decide +kernel, by decide +kernel, List.mem_of_getElem? (i := 582) (by decide +kernel), by decide +kernel⟩
set_option maxRecDepth 20000 in
theorem th_X6_168_308_172 : ThOK RX6 "java/lang/IndexOutOfBoundsException" "there is no such farm" ["java/lang/RuntimeException", "java/lang/Exception"] 168 308 172 := ⟨by decide +kernel, by decide +kernel, gwp 580 (by decide +kernel) rfl, gwp 16 (by decide +kernel) rfl, List.mem_of_getElem? (i := 589) (by decide +kernel), by decide +kernel, by decide +kernel, List.mem_of_getElem? (i := 582) (by decide +kernel), by decide +kernel⟩
set_option maxRecDepth 20000 in
theorem th_X6_188_190_192 : ThOK RX6 "java/lang/IllegalStateException" "the text buffer is full" ["java/lang/RuntimeException", "java/lang/Exception"] 188 190 192 := ⟨by decide +kernel, by decide +kernel, gwp 807 (by decide +kernel) rfl, gwp 21 (by decide +kernel) rfl, List.mem_of_getElem? (i := 816) (by decide +kernel), by decide +kernel, by decide +kernel, List.mem_of_getElem? (i := 809) (by decide +kernel), by decide +kernel⟩
set_option maxRecDepth 20000 in
theorem th_X6_253_255_257 : ThOK RX6 "java/lang/ArithmeticException" "there are no farms" ["java/lang/RuntimeException", "java/lang/Exception"] 253 255 257 := ⟨by decide +kernel, by decide +kernel, gwp 1047 (by decide +kernel) rfl, gwp 25 (by decide +kernel) rfl, List.mem_of_getElem? (i := 1048) (by decide +kernel), by decide +kernel, by decide +kernel, List.mem_of_getElem? (i := 1041) (by decide +kernel), by decide +kernel⟩
set_option maxRecDepth 20000 in
theorem th_X6_253_268_257 : ThOK RX6 "java/lang/ArithmeticException" "there was no drive" ["java/lang/RuntimeException", "java/lang/Exception"] 253 268 257 := ⟨by decide +kernel, by decide +kernel, gwp 1047 (by decide +kernel) rfl, gwp 25 (by decide +kernel) rfl, List.mem_of_getElem? (i := 1069) (by decide +kernel), by decide +kernel, by decide +kernel, List.mem_of_getElem? (i := 1041) (by decide +kernel), by decide +kernel⟩
def t_X6_faultPosition : List (Nat × Instr × Nat) := [(0, .aload_n 0, 1), (1, .getfield 43, 3), (4, .ireturn, 1)]
theorem dt_X6_faultPosition : tblOK cX6_faultPosition t_X6_faultPosition = true := by decide +kernel
def p_X6_faultPosition  (σ : Sg) : Option Int32 :=
  some (gI σ 0 0 7)
set_option maxRecDepth 20000 in
set_option maxHeartbeats 1000000 in
theorem s_X6_faultPosition {l : Launch} {D : va_G} {ty : Nat → ClassId} {ρ : Nat → Nat → Nat} {N0 : Nat} (S : St l ty ρ N0)   (σ : Sg) (r : Int32) (h : p_X6_faultPosition  σ = some r) : AMet l D ty ρ N0 yX6_faultPosition (Cond.code yX6_faultPosition cX6_faultPosition 1 (some .int) :: GW) (rmk 1 0 0) [.ref (ρ 0 0)] σ (oI r) σ := by
  refine am_enter S (by decide) rfl rfl (Nat.le_of_ble_eq_true rfl) ?_
  intro p e s m args below meth c K hX
  have dq := @tat _ _ dt_X6_faultPosition
  unfold p_X6_faultPosition at h
  show WA p l e _ s m args below meth c D ty ρ N0 1 _ 0 [some (.ref (ρ 0 0))] [] σ 0 0
  refine a_aload_n K (dq 0 rfl) rfl rfl ?_
  refine a_get K (T := 0) (i := 0) (k := 7) (v := .int (gI σ 0 0 7)) v_0 rfl rfl in_X6 (Nat.le_of_ble_eq_true rfl) fl_X6_43 rfl (dq 1 rfl) ?_
  obtain rfl := Option.some.inj h
  exact a_iret K rfl rfl (dq 2 rfl) (Nat.le_of_ble_eq_true rfl) (Nat.le_of_ble_eq_true rfl) rfl rfl
def t_X6_isToll : List (Nat × Instr × Nat) := [(0, .iload_n 0, 1), (1, .ifCond .lt 14, 3), (4, .iload_n 0, 1), (5, .sipush 200, 3), (8, .if_icmp .gt 7, 3), (11, .iconst 1, 1), (12, .goto 4, 3), (15, .iconst 0, 1), (16, .ireturn, 1)]
theorem dt_X6_isToll : tblOK cX6_isToll t_X6_isToll = true := by decide +kernel
def p_X6_isToll (a0 : Int32) (σ : Sg) : Option Int32 :=
  if a0 < 0 then (some 0) else (if 200 < a0 then (some 0) else (some 1))
set_option maxRecDepth 20000 in
set_option maxHeartbeats 1000000 in
theorem s_X6_isToll {l : Launch} {D : va_G} {ty : Nat → ClassId} {ρ : Nat → Nat → Nat} {N0 : Nat} (S : St l ty ρ N0) (a0 : Int32)  (σ : Sg) (r : Int32) (h : p_X6_isToll a0 σ = some r) : AMet l D ty ρ N0 yX6_isToll (Cond.code yX6_isToll cX6_isToll 1 (some .boolean) :: GW) (rmk 1 0 0) [.int a0] σ (oI r) σ := by
  refine am_enter S (by decide) rfl rfl (Nat.le_of_ble_eq_true rfl) ?_
  intro p e s m args below meth c K hX
  have dq := @tat _ _ dt_X6_isToll
  unfold p_X6_isToll at h
  show WA p l e _ s m args below meth c D ty ρ N0 1 _ 0 [some (.int a0)] [] σ 0 0
  refine a_iload_n K (dq 0 rfl) rfl rfl ?_
  refine a_if_lt K (tgt := 15) (dq 1 rfl) rfl (fun c1 => ?_) (fun c1 => ?_)
  · have h := ite_t c1 h
    refine a_iconst K (dq 7 rfl) (v := 0) rfl ?_
    obtain rfl := Option.some.inj h
    exact a_iret K rfl rfl (dq 8 rfl) (Nat.le_of_ble_eq_true rfl) (Nat.le_of_ble_eq_true rfl) rfl rfl
  · have h := ite_f c1 h
    refine a_iload_n K (dq 2 rfl) rfl rfl ?_
    refine a_sipush K (dq 3 rfl) (v := 200) rfl ?_
    refine a_icmp_gt K (tgt := 15) (dq 4 rfl) rfl (fun c2 => ?_) (fun c2 => ?_)
    · have h := ite_t c2 h
      refine a_iconst K (dq 7 rfl) (v := 0) rfl ?_
      obtain rfl := Option.some.inj h
      exact a_iret K rfl rfl (dq 8 rfl) (Nat.le_of_ble_eq_true rfl) (Nat.le_of_ble_eq_true rfl) rfl rfl
    · have h := ite_f c2 h
      refine a_iconst K (dq 5 rfl) (v := 1) rfl ?_
      refine a_goto K (tgt := 16) (dq 6 rfl) rfl ?_
      obtain rfl := Option.some.inj h
      exact a_iret K rfl rfl (dq 8 rfl) (Nat.le_of_ble_eq_true rfl) (Nat.le_of_ble_eq_true rfl) rfl rfl
def t_X6_isDrover : List (Nat × Instr × Nat) := [(0, .iload_n 0, 1), (1, .ifCond .lt 12, 3), (4, .iload_n 0, 1), (5, .iconst 3, 1), (6, .if_icmp .ge 7, 3), (9, .iconst 1, 1), (10, .goto 4, 3), (13, .iconst 0, 1), (14, .ireturn, 1)]
theorem dt_X6_isDrover : tblOK cX6_isDrover t_X6_isDrover = true := by decide +kernel
def p_X6_isDrover (a0 : Int32) (σ : Sg) : Option Int32 :=
  if a0 < 0 then (some 0) else (if 3 ≤ a0 then (some 0) else (some 1))
set_option maxRecDepth 20000 in
set_option maxHeartbeats 1000000 in
theorem s_X6_isDrover {l : Launch} {D : va_G} {ty : Nat → ClassId} {ρ : Nat → Nat → Nat} {N0 : Nat} (S : St l ty ρ N0) (a0 : Int32)  (σ : Sg) (r : Int32) (h : p_X6_isDrover a0 σ = some r) : AMet l D ty ρ N0 yX6_isDrover (Cond.code yX6_isDrover cX6_isDrover 1 (some .boolean) :: GW) (rmk 1 0 0) [.int a0] σ (oI r) σ := by
  refine am_enter S (by decide) rfl rfl (Nat.le_of_ble_eq_true rfl) ?_
  intro p e s m args below meth c K hX
  have dq := @tat _ _ dt_X6_isDrover
  unfold p_X6_isDrover at h
  show WA p l e _ s m args below meth c D ty ρ N0 1 _ 0 [some (.int a0)] [] σ 0 0
  refine a_iload_n K (dq 0 rfl) rfl rfl ?_
  refine a_if_lt K (tgt := 13) (dq 1 rfl) rfl (fun c1 => ?_) (fun c1 => ?_)
  · have h := ite_t c1 h
    refine a_iconst K (dq 7 rfl) (v := 0) rfl ?_
    obtain rfl := Option.some.inj h
    exact a_iret K rfl rfl (dq 8 rfl) (Nat.le_of_ble_eq_true rfl) (Nat.le_of_ble_eq_true rfl) rfl rfl
  · have h := ite_f c1 h
    refine a_iload_n K (dq 2 rfl) rfl rfl ?_
    refine a_iconst K (dq 3 rfl) (v := 3) rfl ?_
    refine a_icmp_ge K (tgt := 13) (dq 4 rfl) rfl (fun c2 => ?_) (fun c2 => ?_)
    · have h := ite_t c2 h
      refine a_iconst K (dq 7 rfl) (v := 0) rfl ?_
      obtain rfl := Option.some.inj h
      exact a_iret K rfl rfl (dq 8 rfl) (Nat.le_of_ble_eq_true rfl) (Nat.le_of_ble_eq_true rfl) rfl rfl
    · have h := ite_f c2 h
      refine a_iconst K (dq 5 rfl) (v := 1) rfl ?_
      refine a_goto K (tgt := 14) (dq 6 rfl) rfl ?_
      obtain rfl := Option.some.inj h
      exact a_iret K rfl rfl (dq 8 rfl) (Nat.le_of_ble_eq_true rfl) (Nat.le_of_ble_eq_true rfl) rfl rfl
def t_X6_requireFarm : List (Nat × Instr × Nat) := [(0, .aload_n 0, 1), (1, .getfield 10, 3), (4, .iload_n 1, 1), (5, .invokevirtual 136, 3), (8, .ifCond .ne 14, 3), (11, .new 168, 3), (14, .dup, 1), (15, .ldc_w 308, 3), (18, .invokespecial 172, 3), (21, .athrow, 1), (22, .return_, 1)]
theorem dt_X6_requireFarm : tblOK cX6_requireFarm t_X6_requireFarm = true := by decide +kernel
def p_X6_requireFarm (a1 : Int32) (σ : Sg) : Option ((Int32 ⊕ String) × Sg) :=
  (p_X1_has a1 σ).bind fun r1 => if r1 = 0 then (some (.inr "java/lang/IndexOutOfBoundsException", σ)) else (some (.inl 0, σ))
set_option maxRecDepth 20000 in
set_option maxHeartbeats 1000000 in
theorem s_X6_requireFarm {l : Launch} {D : va_G} {ty : Nat → ClassId} {ρ : Nat → Nat → Nat} {N0 : Nat} (S : St l ty ρ N0) (a1 : Int32)  (σ : Sg) (r : ((Int32 ⊕ String) × Sg)) (h : p_X6_requireFarm a1 σ = some r) : AMet l D ty ρ N0 yX6_requireFarm (Cond.code yX6_requireFarm cX6_requireFarm 2 none :: GW) (rmk 2 1 6) [.ref (ρ 0 0), .int a1] σ (oV r.1) r.2 := by
  refine am_enter S (by decide) rfl rfl (Nat.le_of_ble_eq_true rfl) ?_
  intro p e s m args below meth c K hX
  have dq := @tat _ _ dt_X6_requireFarm
  unfold p_X6_requireFarm at h
  show WA p l e _ s m args below meth c D ty ρ N0 2 _ 0 [some (.ref (ρ 0 0)), some (.int a1)] [] σ 0 0
  refine a_aload_n K (dq 0 rfl) rfl rfl ?_
  refine a_get K (T := 0) (i := 0) (k := 0) (v := .ref (ρ 1 0)) v_0 rfl rfl in_X6 (Nat.le_of_ble_eq_true rfl) fl_X6_10 rfl (dq 1 rfl) ?_
  refine a_iload_n K (dq 2 rfl) rfl rfl ?_
  obtain ⟨r1, h1, h⟩ := bnd h
  refine a_callVi K (s_X1_has S a1  σ r1 h1) v_1 rfl rfl cw_X1_has ml_X6_136 (by decide) rfl (rest := []) rfl (Nat.le_of_ble_eq_true rfl) (dq 3 rfl) (by decide) ?_
  refine a_if_ne K (tgt := 22) (dq 4 rfl) rfl (fun c2 => ?_) (fun c2 => ?_)
  · have h := ite_f c2 h
    obtain rfl := Option.some.inj h
    exact a_vret K rfl (dq 10 rfl) (Nat.le_of_ble_eq_true rfl) (Nat.le_of_ble_eq_true rfl) rfl rfl
  · have h := ite_t c2 h
    obtain rfl := Option.some.inj h
    exact a_throwW K hX th_X6_168_308_172 (dq 5 rfl) (dq 6 rfl) (dq 7 rfl) (dq 8 rfl) (dq 9 rfl) (Nat.le_of_ble_eq_true rfl) (Nat.le_of_ble_eq_true rfl) (Nat.le_of_ble_eq_true rfl) (Nat.le_of_ble_eq_true rfl) (Nat.le_of_ble_eq_true rfl) (Nat.le_of_ble_eq_true rfl) rfl rfl
def t_X6_farmOnWay : List (Nat × Instr × Nat) := [(0, .iload_n 1, 1), (1, .ifCond .lt 14, 3), (4, .iload_n 1, 1), (5, .aload_n 0, 1), (6, .getfield 57, 3), (9, .invokevirtual 126, 3), (12, .if_icmp .lt 14, 3), (15, .new 140, 3), (18, .dup, 1), (19, .ldc_w 312, 3), (22, .invokespecial 144, 3), (25, .athrow, 1), (26, .aload_n 0, 1), (27, .getfield 57, 3), (30, .iload_n 1, 1), (31, .invokevirtual 123, 3), (34, .ireturn, 1)]
theorem dt_X6_farmOnWay : tblOK cX6_farmOnWay t_X6_farmOnWay = true := by decide +kernel
def p_X6_farmOnWay (a1 : Int32) (σ : Sg) : Option ((Int32 ⊕ String) × Sg) :=
  if a1 < 0 then (some (.inr "java/util/NoSuchElementException", σ)) else ((p_X5_farms  σ).bind fun r2 => if a1 < r2 then ((p_X5_farmAt a1 σ).bind fun r4 => some (.inl r4, σ)) else (some (.inr "java/util/NoSuchElementException", σ)))
set_option maxRecDepth 20000 in
set_option maxHeartbeats 1000000 in
theorem s_X6_farmOnWay {l : Launch} {D : va_G} {ty : Nat → ClassId} {ρ : Nat → Nat → Nat} {N0 : Nat} (S : St l ty ρ N0) (a1 : Int32)  (σ : Sg) (r : ((Int32 ⊕ String) × Sg)) (h : p_X6_farmOnWay a1 σ = some r) : AMet l D ty ρ N0 yX6_farmOnWay (Cond.code yX6_farmOnWay cX6_farmOnWay 2 (some .int) :: GW) (rmk 2 1 6) [.ref (ρ 0 0), .int a1] σ (oT r.1) r.2 := by
  refine am_enter S (by decide) rfl rfl (Nat.le_of_ble_eq_true rfl) ?_
  intro p e s m args below meth c K hX
  have dq := @tat _ _ dt_X6_farmOnWay
  unfold p_X6_farmOnWay at h
  show WA p l e _ s m args below meth c D ty ρ N0 2 _ 0 [some (.ref (ρ 0 0)), some (.int a1)] [] σ 0 0
  refine a_iload_n K (dq 0 rfl) rfl rfl ?_
  refine a_if_lt K (tgt := 15) (dq 1 rfl) rfl (fun c1 => ?_) (fun c1 => ?_)
  · have h := ite_t c1 h
    obtain rfl := Option.some.inj h
    exact a_throwNW K hX th_X6_140_312_144 (dq 7 rfl) (dq 8 rfl) (dq 9 rfl) (dq 10 rfl) (dq 11 rfl) (Nat.le_of_ble_eq_true rfl) (Nat.le_of_ble_eq_true rfl) (Nat.le_of_ble_eq_true rfl) (Nat.le_of_ble_eq_true rfl) (Nat.le_of_ble_eq_true rfl) (Nat.le_of_ble_eq_true rfl) rfl rfl
  · have h := ite_f c1 h
    refine a_iload_n K (dq 2 rfl) rfl rfl ?_
    refine a_aload_n K (dq 3 rfl) rfl rfl ?_
    refine a_get K (T := 0) (i := 0) (k := 9) (v := .ref (ρ 14 0)) v_0 rfl rfl in_X6 (Nat.le_of_ble_eq_true rfl) fl_X6_57 rfl (dq 4 rfl) ?_
    obtain ⟨r2, h2, h⟩ := bnd h
    refine a_callVi K (s_X5_farms S   σ r2 h2) v_14 rfl rfl cw_X5_farms ml_X6_126 (by decide) rfl (rest := [.int a1]) rfl (Nat.le_of_ble_eq_true rfl) (dq 5 rfl) (by decide) ?_
    refine a_icmp_lt K (tgt := 26) (dq 6 rfl) rfl (fun c3 => ?_) (fun c3 => ?_)
    · have h := ite_t c3 h
      refine a_aload_n K (dq 12 rfl) rfl rfl ?_
      refine a_get K (T := 0) (i := 0) (k := 9) (v := .ref (ρ 14 0)) v_0 rfl rfl in_X6 (Nat.le_of_ble_eq_true rfl) fl_X6_57 rfl (dq 13 rfl) ?_
      refine a_iload_n K (dq 14 rfl) rfl rfl ?_
      obtain ⟨r4, h4, h⟩ := bnd h
      refine a_callVi K (s_X5_farmAt S a1  σ r4 h4) v_14 rfl rfl cw_X5_farmAt ml_X6_123 (by decide) rfl (rest := []) rfl (Nat.le_of_ble_eq_true rfl) (dq 15 rfl) (by decide) ?_
      obtain rfl := Option.some.inj h
      exact a_iret K rfl rfl (dq 16 rfl) (Nat.le_of_ble_eq_true rfl) (Nat.le_of_ble_eq_true rfl) rfl rfl
    · have h := ite_f c3 h
      obtain rfl := Option.some.inj h
      exact a_throwNW K hX th_X6_140_312_144 (dq 7 rfl) (dq 8 rfl) (dq 9 rfl) (dq 10 rfl) (dq 11 rfl) (Nat.le_of_ble_eq_true rfl) (Nat.le_of_ble_eq_true rfl) (Nat.le_of_ble_eq_true rfl) (Nat.le_of_ble_eq_true rfl) (Nat.le_of_ble_eq_true rfl) (Nat.le_of_ble_eq_true rfl) rfl rfl
def t_X6_isJoined : List (Nat × Instr × Nat) := [(0, .aload_n 0, 1), (1, .iload_n 1, 1), (2, .invokevirtual 69, 3), (5, .aload_n 0, 1), (6, .iload_n 2, 1), (7, .invokevirtual 69, 3), (10, .aload_n 0, 1), (11, .getfield 10, 3), (14, .iload_n 1, 1), (15, .iload_n 2, 1), (16, .invokevirtual 129, 3), (19, .ireturn, 1)]
theorem dt_X6_isJoined : tblOK cX6_isJoined t_X6_isJoined = true := by decide +kernel
def p_X6_isJoined (a1 : Int32) (a2 : Int32) (σ : Sg) : Option ((Int32 ⊕ String) × Sg) :=
  (p_X6_requireFarm a1 σ).bind fun r1 => sm r1.1 (fun x2 => (p_X6_requireFarm a2 r1.2).bind fun r4 => sm r4.1 (fun x5 => (p_X1_areJoined a1 a2 r4.2).bind fun r7 => some (.inl (nb r7), r4.2)) (fun E6 => some (.inr E6, r4.2))) (fun E3 => some (.inr E3, r1.2))
set_option maxRecDepth 20000 in
set_option maxHeartbeats 1000000 in
theorem s_X6_isJoined {l : Launch} {D : va_G} {ty : Nat → ClassId} {ρ : Nat → Nat → Nat} {N0 : Nat} (S : St l ty ρ N0) (a1 : Int32) (a2 : Int32)  (σ : Sg) (r : ((Int32 ⊕ String) × Sg)) (h : p_X6_isJoined a1 a2 σ = some r) : AMet l D ty ρ N0 yX6_isJoined (Cond.code yX6_isJoined cX6_isJoined 3 (some .boolean) :: GW) (rmk 4 2 12) [.ref (ρ 0 0), .int a1, .int a2] σ (oT r.1) r.2 := by
  refine am_enter S (by decide) rfl rfl (Nat.le_of_ble_eq_true rfl) ?_
  intro p e s m args below meth c K hX
  have dq := @tat _ _ dt_X6_isJoined
  unfold p_X6_isJoined at h
  show WA p l e _ s m args below meth c D ty ρ N0 3 _ 0 [some (.ref (ρ 0 0)), some (.int a1), some (.int a2)] [] σ 0 0
  refine a_aload_n K (dq 0 rfl) rfl rfl ?_
  refine a_iload_n K (dq 1 rfl) rfl rfl ?_
  obtain ⟨r1, h1, h⟩ := bnd h
  refine a_callVvt K (s_X6_requireFarm S a1  σ r1 h1) v_0 rfl rfl cw_X6_requireFarm ml_X6_69 (by decide) rfl (rest := []) rfl (Nat.le_of_ble_eq_true rfl) (dq 2 rfl) (by decide) (fun x2 hx2 => ?_) (fun E3 hE3 => ?_)
  · have h := sm_l hx2 h
    refine a_aload_n K (dq 3 rfl) rfl rfl ?_
    refine a_iload_n K (dq 4 rfl) rfl rfl ?_
    obtain ⟨r4, h4, h⟩ := bnd h
    refine a_callVvt K (s_X6_requireFarm S a2  r1.2 r4 h4) v_0 rfl rfl cw_X6_requireFarm ml_X6_69 (by decide) rfl (rest := []) rfl (Nat.le_of_ble_eq_true rfl) (dq 5 rfl) (by decide) (fun x5 hx5 => ?_) (fun E6 hE6 => ?_)
    · have h := sm_l hx5 h
      refine a_aload_n K (dq 6 rfl) rfl rfl ?_
      refine a_get K (T := 0) (i := 0) (k := 0) (v := .ref (ρ 1 0)) v_0 rfl rfl in_X6 (Nat.le_of_ble_eq_true rfl) fl_X6_10 rfl (dq 7 rfl) ?_
      refine a_iload_n K (dq 8 rfl) rfl rfl ?_
      refine a_iload_n K (dq 9 rfl) rfl rfl ?_
      obtain ⟨r7, h7, h⟩ := bnd h
      refine a_callVi K (s_X1_areJoined S a1 a2  r4.2 r7 h7) v_1 rfl rfl cw_X1_areJoined ml_X6_129 (by decide) rfl (rest := []) rfl (Nat.le_of_ble_eq_true rfl) (dq 10 rfl) (by decide) ?_
      obtain rfl := Option.some.inj h
      exact a_iret K rfl rfl (dq 11 rfl) (Nat.le_of_ble_eq_true rfl) (Nat.le_of_ble_eq_true rfl) rfl rfl
    · have h := sm_r hE6 h
      obtain rfl := Option.some.inj h
      exact a_out K hX (Nat.le_of_ble_eq_true rfl) (Nat.le_of_ble_eq_true rfl) rfl rfl
  · have h := sm_r hE3 h
    obtain rfl := Option.some.inj h
    exact a_out K hX (Nat.le_of_ble_eq_true rfl) (Nat.le_of_ble_eq_true rfl) rfl rfl
def t_X6_isTrack : List (Nat × Instr × Nat) := [(0, .aload_n 0, 1), (1, .iload_n 1, 1), (2, .invokevirtual 69, 3), (5, .aload_n 0, 1), (6, .iload_n 2, 1), (7, .invokevirtual 69, 3), (10, .aload_n 0, 1), (11, .getfield 10, 3), (14, .iload_n 1, 1), (15, .iload_n 2, 1), (16, .invokevirtual 133, 3), (19, .ireturn, 1)]
theorem dt_X6_isTrack : tblOK cX6_isTrack t_X6_isTrack = true := by decide +kernel
def p_X6_isTrack (a1 : Int32) (a2 : Int32) (σ : Sg) : Option ((Int32 ⊕ String) × Sg) :=
  (p_X6_requireFarm a1 σ).bind fun r1 => sm r1.1 (fun x2 => (p_X6_requireFarm a2 r1.2).bind fun r4 => sm r4.1 (fun x5 => (p_X1_hasTrack a1 a2 r4.2).bind fun r7 => some (.inl (nb r7), r4.2)) (fun E6 => some (.inr E6, r4.2))) (fun E3 => some (.inr E3, r1.2))
set_option maxRecDepth 20000 in
set_option maxHeartbeats 1000000 in
theorem s_X6_isTrack {l : Launch} {D : va_G} {ty : Nat → ClassId} {ρ : Nat → Nat → Nat} {N0 : Nat} (S : St l ty ρ N0) (a1 : Int32) (a2 : Int32)  (σ : Sg) (r : ((Int32 ⊕ String) × Sg)) (h : p_X6_isTrack a1 a2 σ = some r) : AMet l D ty ρ N0 yX6_isTrack (Cond.code yX6_isTrack cX6_isTrack 3 (some .boolean) :: GW) (rmk 3 2 12) [.ref (ρ 0 0), .int a1, .int a2] σ (oT r.1) r.2 := by
  refine am_enter S (by decide) rfl rfl (Nat.le_of_ble_eq_true rfl) ?_
  intro p e s m args below meth c K hX
  have dq := @tat _ _ dt_X6_isTrack
  unfold p_X6_isTrack at h
  show WA p l e _ s m args below meth c D ty ρ N0 3 _ 0 [some (.ref (ρ 0 0)), some (.int a1), some (.int a2)] [] σ 0 0
  refine a_aload_n K (dq 0 rfl) rfl rfl ?_
  refine a_iload_n K (dq 1 rfl) rfl rfl ?_
  obtain ⟨r1, h1, h⟩ := bnd h
  refine a_callVvt K (s_X6_requireFarm S a1  σ r1 h1) v_0 rfl rfl cw_X6_requireFarm ml_X6_69 (by decide) rfl (rest := []) rfl (Nat.le_of_ble_eq_true rfl) (dq 2 rfl) (by decide) (fun x2 hx2 => ?_) (fun E3 hE3 => ?_)
  · have h := sm_l hx2 h
    refine a_aload_n K (dq 3 rfl) rfl rfl ?_
    refine a_iload_n K (dq 4 rfl) rfl rfl ?_
    obtain ⟨r4, h4, h⟩ := bnd h
    refine a_callVvt K (s_X6_requireFarm S a2  r1.2 r4 h4) v_0 rfl rfl cw_X6_requireFarm ml_X6_69 (by decide) rfl (rest := []) rfl (Nat.le_of_ble_eq_true rfl) (dq 5 rfl) (by decide) (fun x5 hx5 => ?_) (fun E6 hE6 => ?_)
    · have h := sm_l hx5 h
      refine a_aload_n K (dq 6 rfl) rfl rfl ?_
      refine a_get K (T := 0) (i := 0) (k := 0) (v := .ref (ρ 1 0)) v_0 rfl rfl in_X6 (Nat.le_of_ble_eq_true rfl) fl_X6_10 rfl (dq 7 rfl) ?_
      refine a_iload_n K (dq 8 rfl) rfl rfl ?_
      refine a_iload_n K (dq 9 rfl) rfl rfl ?_
      obtain ⟨r7, h7, h⟩ := bnd h
      refine a_callVi K (s_X1_hasTrack S a1 a2  r4.2 r7 h7) v_1 rfl rfl cw_X1_hasTrack ml_X6_133 (by decide) rfl (rest := []) rfl (Nat.le_of_ble_eq_true rfl) (dq 10 rfl) (by decide) ?_
      obtain rfl := Option.some.inj h
      exact a_iret K rfl rfl (dq 11 rfl) (Nat.le_of_ble_eq_true rfl) (Nat.le_of_ble_eq_true rfl) rfl rfl
    · have h := sm_r hE6 h
      obtain rfl := Option.some.inj h
      exact a_out K hX (Nat.le_of_ble_eq_true rfl) (Nat.le_of_ble_eq_true rfl) rfl rfl
  · have h := sm_r hE3 h
    obtain rfl := Option.some.inj h
    exact a_out K hX (Nat.le_of_ble_eq_true rfl) (Nat.le_of_ble_eq_true rfl) rfl rfl
def t_X6_exposed : List (Nat × Instr × Nat) := [(0, .aload_n 0, 1), (1, .iload_n 1, 1), (2, .invokevirtual 69, 3), (5, .aload_n 0, 1), (6, .getfield 10, 3), (9, .iload_n 2, 1), (10, .invokevirtual 136, 3), (13, .ifCond .eq 14, 3), (16, .aload_n 0, 1), (17, .getfield 10, 3), (20, .iload_n 1, 1), (21, .invokevirtual 92, 3), (24, .goto 4, 3), (27, .iconst (-1), 1), (28, .istore_n 3, 1), (29, .iconst 0, 1), (30, .istore 4, 2), (32, .iload 4, 2), (34, .iload_n 2, 1), (35, .if_icmp .ge 23, 3), (38, .iload_n 3, 1), (39, .iconst (-1), 1), (40, .if_icmp .eq 18, 3), (43, .aload_n 0, 1), (44, .getfield 10, 3), (47, .iload_n 3, 1), (48, .invokevirtual 80, 3), (51, .istore_n 3, 1), (52, .iinc 4 1, 3), (55, .goto (-23), 3), (58, .iload_n 3, 1), (59, .iconst (-1), 1), (60, .if_icmp .ne 13, 3), (63, .new 140, 3), (66, .dup, 1), (67, .ldc 142, 2), (69, .invokespecial 144, 3), (72, .athrow, 1), (73, .iload_n 3, 1), (74, .ireturn, 1)]
theorem dt_X6_exposed : tblOK cX6_exposed t_X6_exposed = true := by decide +kernel
def p_X6_exposed_L32  : Nat → Int32 → Int32 → Int32 → Sg → Option (((Int32 ⊕ String) × Sg))
  | 0, _, _, _, _ => none
  | n + 1, v2, v3, v4, σ => if v2 ≤ v4 then (if v3 = (-1) then (some (.inr "java/util/NoSuchElementException", σ)) else (some (.inl v3, σ))) else (if v3 = (-1) then (if v3 = (-1) then (some (.inr "java/util/NoSuchElementException", σ)) else (some (.inl v3, σ))) else ((p_X1_preferredOf v3 σ).bind fun r10 => p_X6_exposed_L32 n v2 r10 (v4 + 1) σ))
def p_X6_exposed (a1 : Int32) (a2 : Int32) (σ : Sg) : Option ((Int32 ⊕ String) × Sg) :=
  (p_X6_requireFarm a1 σ).bind fun r1 => sm r1.1 (fun x2 => (p_X1_has a2 r1.2).bind fun r4 => if r4 = 0 then (p_X6_exposed_L32 400 a2 (-1) 0 r1.2) else ((p_X1_rootOf a1 r1.2).bind fun r11 => p_X6_exposed_L32 400 a2 r11 0 r1.2)) (fun E3 => some (.inr E3, r1.2))
set_option maxRecDepth 20000 in
set_option maxHeartbeats 1000000 in
theorem s_X6_exposed_L32 {l : Launch} {D : va_G} {ty : Nat → ClassId} {ρ : Nat → Nat → Nat} {N0 : Nat} (S : St l ty ρ N0)   : ∀ (n : Nat) (v2 : Int32) (v3 : Int32) (v4 : Int32) (σ : Sg) (r : ((Int32 ⊕ String) × Sg)) (h : p_X6_exposed_L32  n v2 v3 v4 σ = some r) {p : Program} {e : Env} {s : State} {m : MethodId} {args : Array Value} {below : List Frame} {meth : Method} {c : Code} (K : Cx p l s m args meth c cX6_exposed 5 RX6 (some .int) D ty ρ N0) (hX : ∀ x ∈ c.exceptionTable.toList, False), WA p l e (rmk 3 2 12) s m args below meth c D ty ρ N0 5 (vx_MQ below (oQ D ty ρ N0 (oT r.1) r.2) (oX D ty ρ N0 (oT r.1) r.2) args s 2 12 (fun q => N0 ≤ q)) 32 [some (.ref (ρ 0 0)), none, some (.int v2), some (.int v3), some (.int v4)] [] σ 1 6 := by
  intro n
  induction n with
  | zero =>
    intro v2 v3 v4 σ r h
    simp only [p_X6_exposed_L32] at h
    cases h
  | succ n ih =>
    intro v2 v3 v4 σ r h p e s m args below meth c K hX
    have dq := @tat _ _ dt_X6_exposed
    rw [p_X6_exposed_L32] at h
    refine a_iload K (dq 17 rfl) rfl ?_
    refine a_iload_n K (dq 18 rfl) rfl rfl ?_
    refine a_icmp_ge K (tgt := 58) (dq 19 rfl) rfl (fun c6 => ?_) (fun c6 => ?_)
    · have h := ite_t c6 h
      refine a_iload_n K (dq 30 rfl) rfl rfl ?_
      refine a_iconst K (dq 31 rfl) (v := (-1)) rfl ?_
      refine a_icmp_ne K (tgt := 73) (dq 32 rfl) rfl (fun c7 => ?_) (fun c7 => ?_)
      · have h := ite_f c7 h
        refine a_iload_n K (dq 38 rfl) rfl rfl ?_
        obtain rfl := Option.some.inj h
        exact a_iret K rfl rfl (dq 39 rfl) (Nat.le_of_ble_eq_true rfl) (Nat.le_of_ble_eq_true rfl) rfl rfl
      · have h := ite_t c7 h
        obtain rfl := Option.some.inj h
        exact a_throwNS K hX th_X6_140_142_144 (dq 33 rfl) (dq 34 rfl) (dq 35 rfl) (dq 36 rfl) (dq 37 rfl) (Nat.le_of_ble_eq_true rfl) (Nat.le_of_ble_eq_true rfl) (Nat.le_of_ble_eq_true rfl) (Nat.le_of_ble_eq_true rfl) (Nat.le_of_ble_eq_true rfl) (Nat.le_of_ble_eq_true rfl) rfl rfl
    · have h := ite_f c6 h
      refine a_iload_n K (dq 20 rfl) rfl rfl ?_
      refine a_iconst K (dq 21 rfl) (v := (-1)) rfl ?_
      refine a_icmp_eq K (tgt := 58) (dq 22 rfl) rfl (fun c8 => ?_) (fun c8 => ?_)
      · have h := ite_t c8 h
        refine a_iload_n K (dq 30 rfl) rfl rfl ?_
        refine a_iconst K (dq 31 rfl) (v := (-1)) rfl ?_
        refine a_icmp_ne K (tgt := 73) (dq 32 rfl) rfl (fun c9 => ?_) (fun c9 => ?_)
        · have h := ite_f c9 h
          refine a_iload_n K (dq 38 rfl) rfl rfl ?_
          obtain rfl := Option.some.inj h
          exact a_iret K rfl rfl (dq 39 rfl) (Nat.le_of_ble_eq_true rfl) (Nat.le_of_ble_eq_true rfl) rfl rfl
        · have h := ite_t c9 h
          obtain rfl := Option.some.inj h
          exact a_throwNS K hX th_X6_140_142_144 (dq 33 rfl) (dq 34 rfl) (dq 35 rfl) (dq 36 rfl) (dq 37 rfl) (Nat.le_of_ble_eq_true rfl) (Nat.le_of_ble_eq_true rfl) (Nat.le_of_ble_eq_true rfl) (Nat.le_of_ble_eq_true rfl) (Nat.le_of_ble_eq_true rfl) (Nat.le_of_ble_eq_true rfl) rfl rfl
      · have h := ite_f c8 h
        refine a_aload_n K (dq 23 rfl) rfl rfl ?_
        refine a_get K (T := 0) (i := 0) (k := 0) (v := .ref (ρ 1 0)) v_0 rfl rfl in_X6 (Nat.le_of_ble_eq_true rfl) fl_X6_10 rfl (dq 24 rfl) ?_
        refine a_iload_n K (dq 25 rfl) rfl rfl ?_
        obtain ⟨r10, h10, h⟩ := bnd h
        refine a_callVi K (s_X1_preferredOf S v3  σ r10 h10) v_1 rfl rfl cw_X1_preferredOf ml_X6_80 (by decide) rfl (rest := []) rfl (Nat.le_of_ble_eq_true rfl) (dq 26 rfl) (by decide) ?_
        refine a_istore_n K (dq 27 rfl) rfl (Nat.le_of_ble_eq_true rfl) (ls' := [some (.ref (ρ 0 0)), none, some (.int v2), some (.int r10), some (.int v4)]) rfl ?_
        refine a_iinc K (dq 28 rfl) rfl (v := (v4 + 1)) rfl (Nat.le_of_ble_eq_true rfl) (ls' := [some (.ref (ρ 0 0)), none, some (.int v2), some (.int r10), some (.int (v4 + 1))]) rfl ?_
        refine a_goto K (tgt := 32) (dq 29 rfl) rfl ?_
        exact ih v2 r10 (v4 + 1) σ r h K hX
set_option maxRecDepth 20000 in
set_option maxHeartbeats 1000000 in
theorem s_X6_exposed {l : Launch} {D : va_G} {ty : Nat → ClassId} {ρ : Nat → Nat → Nat} {N0 : Nat} (S : St l ty ρ N0) (a1 : Int32) (a2 : Int32)  (σ : Sg) (r : ((Int32 ⊕ String) × Sg)) (h : p_X6_exposed a1 a2 σ = some r) : AMet l D ty ρ N0 yX6_exposed (Cond.code yX6_exposed cX6_exposed 5 (some .int) :: GW) (rmk 3 2 12) [.ref (ρ 0 0), .int a1, .int a2] σ (oT r.1) r.2 := by
  refine am_enter S (by decide) rfl rfl (Nat.le_of_ble_eq_true rfl) ?_
  intro p e s m args below meth c K hX
  have dq := @tat _ _ dt_X6_exposed
  unfold p_X6_exposed at h
  show WA p l e _ s m args below meth c D ty ρ N0 5 _ 0 [some (.ref (ρ 0 0)), some (.int a1), some (.int a2), none, none] [] σ 0 0
  refine a_aload_n K (dq 0 rfl) rfl rfl ?_
  refine a_iload_n K (dq 1 rfl) rfl rfl ?_
  obtain ⟨r1, h1, h⟩ := bnd h
  refine a_callVvt K (s_X6_requireFarm S a1  σ r1 h1) v_0 rfl rfl cw_X6_requireFarm ml_X6_69 (by decide) rfl (rest := []) rfl (Nat.le_of_ble_eq_true rfl) (dq 2 rfl) (by decide) (fun x2 hx2 => ?_) (fun E3 hE3 => ?_)
  · have h := sm_l hx2 h
    refine a_aload_n K (dq 3 rfl) rfl rfl ?_
    refine a_get K (T := 0) (i := 0) (k := 0) (v := .ref (ρ 1 0)) v_0 rfl rfl in_X6 (Nat.le_of_ble_eq_true rfl) fl_X6_10 rfl (dq 4 rfl) ?_
    refine a_iload_n K (dq 5 rfl) rfl rfl ?_
    obtain ⟨r4, h4, h⟩ := bnd h
    refine a_callVi K (s_X1_has S a2  r1.2 r4 h4) v_1 rfl rfl cw_X1_has ml_X6_136 (by decide) rfl (rest := []) rfl (Nat.le_of_ble_eq_true rfl) (dq 6 rfl) (by decide) ?_
    refine a_if_eq K (tgt := 27) (dq 7 rfl) rfl (fun c5 => ?_) (fun c5 => ?_)
    · have h := ite_t c5 h
      refine a_iconst K (dq 13 rfl) (v := (-1)) rfl ?_
      refine a_istore_n K (dq 14 rfl) rfl (Nat.le_of_ble_eq_true rfl) (ls' := [some (.ref (ρ 0 0)), some (.int a1), some (.int a2), some (.int (-1)), none]) rfl ?_
      refine a_iconst K (dq 15 rfl) (v := 0) rfl ?_
      refine a_istore K (dq 16 rfl) (Nat.le_of_ble_eq_true rfl) (ls' := [some (.ref (ρ 0 0)), some (.int a1), some (.int a2), some (.int (-1)), some (.int 0)]) rfl ?_
      refine a_le2 (ls' := [some (.ref (ρ 0 0)), none, some (.int a2), some (.int (-1)), some (.int 0)]) ⟨rfl, rfl, rfl, rfl, trivial⟩ ?_
      exact s_X6_exposed_L32 S    400 a2 (-1) 0 r1.2 r h K hX
    · have h := ite_f c5 h
      refine a_aload_n K (dq 8 rfl) rfl rfl ?_
      refine a_get K (T := 0) (i := 0) (k := 0) (v := .ref (ρ 1 0)) v_0 rfl rfl in_X6 (Nat.le_of_ble_eq_true rfl) fl_X6_10 rfl (dq 9 rfl) ?_
      refine a_iload_n K (dq 10 rfl) rfl rfl ?_
      obtain ⟨r11, h11, h⟩ := bnd h
      refine a_callVi K (s_X1_rootOf S a1  r1.2 r11 h11) v_1 rfl rfl cw_X1_rootOf ml_X6_92 (by decide) rfl (rest := []) rfl (Nat.le_of_ble_eq_true rfl) (dq 11 rfl) (by decide) ?_
      refine a_goto K (tgt := 28) (dq 12 rfl) rfl ?_
      refine a_istore_n K (dq 14 rfl) rfl (Nat.le_of_ble_eq_true rfl) (ls' := [some (.ref (ρ 0 0)), some (.int a1), some (.int a2), some (.int r11), none]) rfl ?_
      refine a_iconst K (dq 15 rfl) (v := 0) rfl ?_
      refine a_istore K (dq 16 rfl) (Nat.le_of_ble_eq_true rfl) (ls' := [some (.ref (ρ 0 0)), some (.int a1), some (.int a2), some (.int r11), some (.int 0)]) rfl ?_
      refine a_le2 (ls' := [some (.ref (ρ 0 0)), none, some (.int a2), some (.int r11), some (.int 0)]) ⟨rfl, rfl, rfl, rfl, trivial⟩ ?_
      exact s_X6_exposed_L32 S    400 a2 r11 0 r1.2 r h K hX
  · have h := sm_r hE3 h
    obtain rfl := Option.some.inj h
    exact a_out K hX (Nat.le_of_ble_eq_true rfl) (Nat.le_of_ble_eq_true rfl) rfl rfl
def t_X6_drover : List (Nat × Instr × Nat) := [(0, .iload_n 1, 1), (1, .invokestatic 165, 3), (4, .ifCond .ne 13, 3), (7, .new 168, 3), (10, .dup, 1), (11, .ldc 170, 2), (13, .invokespecial 172, 3), (16, .athrow, 1), (17, .aload_n 0, 1), (18, .getfield 10, 3), (21, .iload_n 1, 1), (22, .invokevirtual 173, 3), (25, .ireturn, 1)]
theorem dt_X6_drover : tblOK cX6_drover t_X6_drover = true := by decide +kernel
def p_X6_drover (a1 : Int32) (σ : Sg) : Option ((Int32 ⊕ String) × Sg) :=
  (p_X6_isDrover a1 σ).bind fun r1 => if r1 = 0 then (some (.inr "java/lang/IndexOutOfBoundsException", σ)) else ((p_X1_farmOfDrover a1 σ).bind fun r3 => some (.inl r3, σ))
set_option maxRecDepth 20000 in
set_option maxHeartbeats 1000000 in
theorem s_X6_drover {l : Launch} {D : va_G} {ty : Nat → ClassId} {ρ : Nat → Nat → Nat} {N0 : Nat} (S : St l ty ρ N0) (a1 : Int32)  (σ : Sg) (r : ((Int32 ⊕ String) × Sg)) (h : p_X6_drover a1 σ = some r) : AMet l D ty ρ N0 yX6_drover (Cond.code yX6_drover cX6_drover 2 (some .int) :: GW) (rmk 2 1 6) [.ref (ρ 0 0), .int a1] σ (oT r.1) r.2 := by
  refine am_enter S (by decide) rfl rfl (Nat.le_of_ble_eq_true rfl) ?_
  intro p e s m args below meth c K hX
  have dq := @tat _ _ dt_X6_drover
  unfold p_X6_drover at h
  show WA p l e _ s m args below meth c D ty ρ N0 2 _ 0 [some (.ref (ρ 0 0)), some (.int a1)] [] σ 0 0
  refine a_iload_n K (dq 0 rfl) rfl rfl ?_
  obtain ⟨r1, h1, h⟩ := bnd h
  refine a_callSi K (s_X6_isDrover S a1  σ r1 h1) cw_X6_isDrover ml_X6_165 (by decide) rfl (rest := []) rfl (Nat.le_of_ble_eq_true rfl) (dq 1 rfl) (by decide) ?_
  refine a_if_ne K (tgt := 17) (dq 2 rfl) rfl (fun c2 => ?_) (fun c2 => ?_)
  · have h := ite_f c2 h
    refine a_aload_n K (dq 8 rfl) rfl rfl ?_
    refine a_get K (T := 0) (i := 0) (k := 0) (v := .ref (ρ 1 0)) v_0 rfl rfl in_X6 (Nat.le_of_ble_eq_true rfl) fl_X6_10 rfl (dq 9 rfl) ?_
    refine a_iload_n K (dq 10 rfl) rfl rfl ?_
    obtain ⟨r3, h3, h⟩ := bnd h
    refine a_callVi K (s_X1_farmOfDrover S a1  σ r3 h3) v_1 rfl rfl cw_X1_farmOfDrover ml_X6_173 (by decide) rfl (rest := []) rfl (Nat.le_of_ble_eq_true rfl) (dq 11 rfl) (by decide) ?_
    obtain rfl := Option.some.inj h
    exact a_iret K rfl rfl (dq 12 rfl) (Nat.le_of_ble_eq_true rfl) (Nat.le_of_ble_eq_true rfl) rfl rfl
  · have h := ite_t c2 h
    obtain rfl := Option.some.inj h
    exact a_throwS K hX th_X6_168_170_172 (dq 3 rfl) (dq 4 rfl) (dq 5 rfl) (dq 6 rfl) (dq 7 rfl) (Nat.le_of_ble_eq_true rfl) (Nat.le_of_ble_eq_true rfl) (Nat.le_of_ble_eq_true rfl) (Nat.le_of_ble_eq_true rfl) (Nat.le_of_ble_eq_true rfl) (Nat.le_of_ble_eq_true rfl) rfl rfl
def t_X6_farmsRankedAhead : List (Nat × Instr × Nat) := [(0, .iconst 0, 1), (1, .istore_n 2, 1), (2, .iconst 0, 1), (3, .istore_n 3, 1), (4, .iload_n 3, 1), (5, .aload_n 0, 1), (6, .getfield 10, 3), (9, .invokevirtual 152, 3), (12, .if_icmp .ge 49, 3), (15, .iload_n 3, 1), (16, .aload_n 0, 1), (17, .getfield 61, 3), (20, .arraylength, 1), (21, .if_icmp .ge 40, 3), (24, .iload_n 1, 1), (25, .ifCond .lt 30, 3), (28, .iload_n 1, 1), (29, .aload_n 0, 1), (30, .getfield 61, 3), (33, .arraylength, 1), (34, .if_icmp .ge 21, 3), (37, .aload_n 0, 1), (38, .getfield 61, 3), (41, .iload_n 3, 1), (42, .iaload, 1), (43, .aload_n 0, 1), (44, .getfield 61, 3), (47, .iload_n 1, 1), (48, .iaload, 1), (49, .if_icmp .ge 6, 3), (52, .iinc 2 1, 3), (55, .iinc 3 1, 3), (58, .goto (-54), 3), (61, .iload_n 2, 1), (62, .ireturn, 1)]
theorem dt_X6_farmsRankedAhead : tblOK cX6_farmsRankedAhead t_X6_farmsRankedAhead = true := by decide +kernel
def p_X6_farmsRankedAhead_L4  (σ : Sg) : Nat → Int32 → Int32 → Int32 → Option Int32
  | 0, _, _, _ => none
  | n + 1, v1, v2, v3 => (p_X1_farms  σ).bind fun r1 => if r1 ≤ v3 then (some v2) else (if 12 ≤ v3 then (some v2) else (if v1 < 0 then (p_X6_farmsRankedAhead_L4 σ n v1 v2 (v3 + 1)) else (if 12 ≤ v1 then (p_X6_farmsRankedAhead_L4 σ n v1 v2 (v3 + 1)) else (if ib v3 12 then (if ib v1 12 then (if (gA σ 16 0 v1.toNatClampNeg) ≤ (gA σ 16 0 v3.toNatClampNeg) then (p_X6_farmsRankedAhead_L4 σ n v1 v2 (v3 + 1)) else (p_X6_farmsRankedAhead_L4 σ n v1 (v2 + 1) (v3 + 1))) else none) else none))))
def p_X6_farmsRankedAhead (a1 : Int32) (σ : Sg) : Option Int32 :=
  p_X6_farmsRankedAhead_L4 σ 400 a1 0 0
set_option maxRecDepth 20000 in
set_option maxHeartbeats 1000000 in
theorem s_X6_farmsRankedAhead_L4 {l : Launch} {D : va_G} {ty : Nat → ClassId} {ρ : Nat → Nat → Nat} {N0 : Nat} (S : St l ty ρ N0)   (σ : Sg) : ∀ (n : Nat) (v1 : Int32) (v2 : Int32) (v3 : Int32) (r : Int32) (h : p_X6_farmsRankedAhead_L4  σ n v1 v2 v3 = some r) {p : Program} {e : Env} {s : State} {m : MethodId} {args : Array Value} {below : List Frame} {meth : Method} {c : Code} (K : Cx p l s m args meth c cX6_farmsRankedAhead 4 RX6 (some .int) D ty ρ N0) (hX : ∀ x ∈ c.exceptionTable.toList, False), WA p l e (rmk 2 0 0) s m args below meth c D ty ρ N0 4 (vx_MQ below (oQ D ty ρ N0 (oI r) σ) (oX D ty ρ N0 (oI r) σ) args s 0 0 (fun q => N0 ≤ q)) 4 [some (.ref (ρ 0 0)), some (.int v1), some (.int v2), some (.int v3)] [] σ 0 0 := by
  intro n
  induction n with
  | zero =>
    intro v1 v2 v3 r h
    simp only [p_X6_farmsRankedAhead_L4] at h
    cases h
  | succ n ih =>
    intro v1 v2 v3 r h p e s m args below meth c K hX
    have dq := @tat _ _ dt_X6_farmsRankedAhead
    rw [p_X6_farmsRankedAhead_L4] at h
    refine a_iload_n K (dq 4 rfl) rfl rfl ?_
    refine a_aload_n K (dq 5 rfl) rfl rfl ?_
    refine a_get K (T := 0) (i := 0) (k := 0) (v := .ref (ρ 1 0)) v_0 rfl rfl in_X6 (Nat.le_of_ble_eq_true rfl) fl_X6_10 rfl (dq 6 rfl) ?_
    obtain ⟨r1, h1, h⟩ := bnd h
    refine a_callVi K (s_X1_farms S   σ r1 h1) v_1 rfl rfl cw_X1_farms ml_X6_152 (by decide) rfl (rest := [.int v3]) rfl (Nat.le_of_ble_eq_true rfl) (dq 7 rfl) (by decide) ?_
    refine a_icmp_ge K (tgt := 61) (dq 8 rfl) rfl (fun c2 => ?_) (fun c2 => ?_)
    · have h := ite_t c2 h
      refine a_iload_n K (dq 33 rfl) rfl rfl ?_
      obtain rfl := Option.some.inj h
      exact a_iret K rfl rfl (dq 34 rfl) (Nat.le_of_ble_eq_true rfl) (Nat.le_of_ble_eq_true rfl) rfl rfl
    · have h := ite_f c2 h
      refine a_iload_n K (dq 9 rfl) rfl rfl ?_
      refine a_aload_n K (dq 10 rfl) rfl rfl ?_
      refine a_get K (T := 0) (i := 0) (k := 10) (v := .ref (ρ 16 0)) v_0 rfl rfl in_X6 (Nat.le_of_ble_eq_true rfl) fl_X6_61 rfl (dq 11 rfl) ?_
      refine a_ilen K (T := 16) (i := 0) (v := 12) v_16 rfl rfl rfl (dq 12 rfl) ?_
      refine a_icmp_ge K (tgt := 61) (dq 13 rfl) rfl (fun c3 => ?_) (fun c3 => ?_)
      · have h := ite_t c3 h
        refine a_iload_n K (dq 33 rfl) rfl rfl ?_
        obtain rfl := Option.some.inj h
        exact a_iret K rfl rfl (dq 34 rfl) (Nat.le_of_ble_eq_true rfl) (Nat.le_of_ble_eq_true rfl) rfl rfl
      · have h := ite_f c3 h
        refine a_iload_n K (dq 14 rfl) rfl rfl ?_
        refine a_if_lt K (tgt := 55) (dq 15 rfl) rfl (fun c4 => ?_) (fun c4 => ?_)
        · have h := ite_t c4 h
          refine a_iinc K (dq 31 rfl) rfl (v := (v3 + 1)) rfl (Nat.le_of_ble_eq_true rfl) (ls' := [some (.ref (ρ 0 0)), some (.int v1), some (.int v2), some (.int (v3 + 1))]) rfl ?_
          refine a_goto K (tgt := 4) (dq 32 rfl) rfl ?_
          exact ih v1 v2 (v3 + 1) r h K hX
        · have h := ite_f c4 h
          refine a_iload_n K (dq 16 rfl) rfl rfl ?_
          refine a_aload_n K (dq 17 rfl) rfl rfl ?_
          refine a_get K (T := 0) (i := 0) (k := 10) (v := .ref (ρ 16 0)) v_0 rfl rfl in_X6 (Nat.le_of_ble_eq_true rfl) fl_X6_61 rfl (dq 18 rfl) ?_
          refine a_ilen K (T := 16) (i := 0) (v := 12) v_16 rfl rfl rfl (dq 19 rfl) ?_
          refine a_icmp_ge K (tgt := 55) (dq 20 rfl) rfl (fun c5 => ?_) (fun c5 => ?_)
          · have h := ite_t c5 h
            refine a_iinc K (dq 31 rfl) rfl (v := (v3 + 1)) rfl (Nat.le_of_ble_eq_true rfl) (ls' := [some (.ref (ρ 0 0)), some (.int v1), some (.int v2), some (.int (v3 + 1))]) rfl ?_
            refine a_goto K (tgt := 4) (dq 32 rfl) rfl ?_
            exact ih v1 v2 (v3 + 1) r h K hX
          · have h := ite_f c5 h
            refine a_aload_n K (dq 21 rfl) rfl rfl ?_
            refine a_get K (T := 0) (i := 0) (k := 10) (v := .ref (ρ 16 0)) v_0 rfl rfl in_X6 (Nat.le_of_ble_eq_true rfl) fl_X6_61 rfl (dq 22 rfl) ?_
            refine a_iload_n K (dq 23 rfl) rfl rfl ?_
            obtain ⟨c6, h⟩ := ib_some h
            refine a_iald K (T := 16) (i := 0) v_16 rfl rfl c6 (dq 24 rfl) ?_
            refine a_aload_n K (dq 25 rfl) rfl rfl ?_
            refine a_get K (T := 0) (i := 0) (k := 10) (v := .ref (ρ 16 0)) v_0 rfl rfl in_X6 (Nat.le_of_ble_eq_true rfl) fl_X6_61 rfl (dq 26 rfl) ?_
            refine a_iload_n K (dq 27 rfl) rfl rfl ?_
            obtain ⟨c7, h⟩ := ib_some h
            refine a_iald K (T := 16) (i := 0) v_16 rfl rfl c7 (dq 28 rfl) ?_
            refine a_icmp_ge K (tgt := 55) (dq 29 rfl) rfl (fun c8 => ?_) (fun c8 => ?_)
            · have h := ite_t c8 h
              refine a_iinc K (dq 31 rfl) rfl (v := (v3 + 1)) rfl (Nat.le_of_ble_eq_true rfl) (ls' := [some (.ref (ρ 0 0)), some (.int v1), some (.int v2), some (.int (v3 + 1))]) rfl ?_
              refine a_goto K (tgt := 4) (dq 32 rfl) rfl ?_
              exact ih v1 v2 (v3 + 1) r h K hX
            · have h := ite_f c8 h
              refine a_iinc K (dq 30 rfl) rfl (v := (v2 + 1)) rfl (Nat.le_of_ble_eq_true rfl) (ls' := [some (.ref (ρ 0 0)), some (.int v1), some (.int (v2 + 1)), some (.int v3)]) rfl ?_
              refine a_iinc K (dq 31 rfl) rfl (v := (v3 + 1)) rfl (Nat.le_of_ble_eq_true rfl) (ls' := [some (.ref (ρ 0 0)), some (.int v1), some (.int (v2 + 1)), some (.int (v3 + 1))]) rfl ?_
              refine a_goto K (tgt := 4) (dq 32 rfl) rfl ?_
              exact ih v1 (v2 + 1) (v3 + 1) r h K hX
set_option maxRecDepth 20000 in
set_option maxHeartbeats 1000000 in
theorem s_X6_farmsRankedAhead {l : Launch} {D : va_G} {ty : Nat → ClassId} {ρ : Nat → Nat → Nat} {N0 : Nat} (S : St l ty ρ N0) (a1 : Int32)  (σ : Sg) (r : Int32) (h : p_X6_farmsRankedAhead a1 σ = some r) : AMet l D ty ρ N0 yX6_farmsRankedAhead (Cond.code yX6_farmsRankedAhead cX6_farmsRankedAhead 4 (some .int) :: GW) (rmk 2 0 0) [.ref (ρ 0 0), .int a1] σ (oI r) σ := by
  refine am_enter S (by decide) rfl rfl (Nat.le_of_ble_eq_true rfl) ?_
  intro p e s m args below meth c K hX
  have dq := @tat _ _ dt_X6_farmsRankedAhead
  unfold p_X6_farmsRankedAhead at h
  show WA p l e _ s m args below meth c D ty ρ N0 4 _ 0 [some (.ref (ρ 0 0)), some (.int a1), none, none] [] σ 0 0
  refine a_iconst K (dq 0 rfl) (v := 0) rfl ?_
  refine a_istore_n K (dq 1 rfl) rfl (Nat.le_of_ble_eq_true rfl) (ls' := [some (.ref (ρ 0 0)), some (.int a1), some (.int 0), none]) rfl ?_
  refine a_iconst K (dq 2 rfl) (v := 0) rfl ?_
  refine a_istore_n K (dq 3 rfl) rfl (Nat.le_of_ble_eq_true rfl) (ls' := [some (.ref (ρ 0 0)), some (.int a1), some (.int 0), some (.int 0)]) rfl ?_
  exact s_X6_farmsRankedAhead_L4 S   σ 400 a1 0 0 r h K hX
def t_X6_bitsOf : List (Nat × Instr × Nat) := [(0, .fload_n 0, 1), (1, .fconst 0, 1), (2, .fcmp .l, 1), (3, .ifCond .gt 5, 3), (6, .iconst 0, 1), (7, .ireturn, 1), (8, .fload_n 0, 1), (9, .fstore_n 1, 1), (10, .iconst 0, 1), (11, .istore_n 2, 1), (12, .iload_n 2, 1), (13, .bipush 127, 2), (15, .if_icmp .ge 19, 3), (18, .fload_n 1, 1), (19, .fconst 2, 1), (20, .fcmp .l, 1), (21, .ifCond .lt 13, 3), (24, .fload_n 1, 1), (25, .fconst 2, 1), (26, .fdiv, 1), (27, .fstore_n 1, 1), (28, .iinc 2 1, 3), (31, .goto (-19), 3), (34, .iload_n 2, 1), (35, .bipush (-127), 2), (37, .if_icmp .le 19, 3), (40, .fload_n 1, 1), (41, .fconst 1, 1), (42, .fcmp .g, 1), (43, .ifCond .ge 13, 3), (46, .fload_n 1, 1), (47, .fconst 2, 1), (48, .fmul, 1), (49, .fstore_n 1, 1), (50, .iinc 2 (-1), 3), (53, .goto (-19), 3), (56, .ldc_w 314, 3), (59, .istore_n 3, 1), (60, .fload_n 1, 1), (61, .iload_n 3, 1), (62, .i2f, 1), (63, .fmul, 1), (64, .f2i, 1), (65, .iload_n 3, 1), (66, .isub, 1), (67, .istore 4, 2), (69, .iload_n 2, 1), (70, .bipush 127, 2), (72, .iadd, 1), (73, .bipush 23, 2), (75, .ishl, 1), (76, .iload 4, 2), (78, .iadd, 1), (79, .ireturn, 1)]
theorem dt_X6_bitsOf : tblOK cX6_bitsOf t_X6_bitsOf = true := by decide +kernel
def p_X6_bitsOf_L34  (σ : Sg) : Nat → UInt32 → Int32 → Option Int32
  | 0, _, _ => none
  | n + 1, v1, v2 => if v2 ≤ (-127) then (if nn32 (FP.fmul v1 (FP.i2f 8388608)) then (some (((v2 + 127) <<< (23 &&& 31)) + ((FP.f2i (FP.fmul v1 (FP.i2f 8388608))) - 8388608))) else none) else (if 0 ≤ (Op.cmpValue (FP.fcmp v1 FP.fconst1) .g) then (if nn32 (FP.fmul v1 (FP.i2f 8388608)) then (some (((v2 + 127) <<< (23 &&& 31)) + ((FP.f2i (FP.fmul v1 (FP.i2f 8388608))) - 8388608))) else none) else (if nn32 (FP.fmul v1 FP.fconst2) then (p_X6_bitsOf_L34 σ n (FP.fmul v1 FP.fconst2) (v2 + (-1))) else none))
def p_X6_bitsOf_L12  (σ : Sg) : Nat → UInt32 → Int32 → Option Int32
  | 0, _, _ => none
  | n + 1, v1, v2 => if 127 ≤ v2 then (p_X6_bitsOf_L34 σ 400 v1 v2) else (if (Op.cmpValue (FP.fcmp v1 FP.fconst2) .l) < 0 then (p_X6_bitsOf_L34 σ 400 v1 v2) else (if nn32 (FP.fdiv v1 FP.fconst2) then (p_X6_bitsOf_L12 σ n (FP.fdiv v1 FP.fconst2) (v2 + 1)) else none))
def p_X6_bitsOf (a0 : UInt32) (σ : Sg) : Option Int32 :=
  if 0 < (Op.cmpValue (FP.fcmp a0 FP.fconst0) .l) then (p_X6_bitsOf_L12 σ 400 a0 0) else (some 0)
set_option maxRecDepth 20000 in
set_option maxHeartbeats 1000000 in
theorem s_X6_bitsOf_L34 {l : Launch} {D : va_G} {ty : Nat → ClassId} {ρ : Nat → Nat → Nat} {N0 : Nat} (S : St l ty ρ N0)   (σ : Sg) : ∀ (n : Nat) (v1 : UInt32) (v2 : Int32) (r : Int32) (h : p_X6_bitsOf_L34  σ n v1 v2 = some r) {p : Program} {e : Env} {s : State} {m : MethodId} {args : Array Value} {below : List Frame} {meth : Method} {c : Code} (K : Cx p l s m args meth c cX6_bitsOf 5 RX6 (some .int) D ty ρ N0) (hX : ∀ x ∈ c.exceptionTable.toList, False), WA p l e (rmk 1 0 0) s m args below meth c D ty ρ N0 5 (vx_MQ below (oQ D ty ρ N0 (oI r) σ) (oX D ty ρ N0 (oI r) σ) args s 0 0 (fun q => N0 ≤ q)) 34 [none, some (.float v1), some (.int v2), none, none] [] σ 0 0 := by
  intro n
  induction n with
  | zero =>
    intro v1 v2 r h
    simp only [p_X6_bitsOf_L34] at h
    cases h
  | succ n ih =>
    intro v1 v2 r h p e s m args below meth c K hX
    have dq := @tat _ _ dt_X6_bitsOf
    rw [p_X6_bitsOf_L34] at h
    refine a_iload_n K (dq 23 rfl) rfl rfl ?_
    refine a_bipush K (dq 24 rfl) (v := (-127)) rfl ?_
    refine a_icmp_le K (tgt := 56) (dq 25 rfl) rfl (fun c3 => ?_) (fun c3 => ?_)
    · have h := ite_t c3 h
      refine a_ldcw K (v := 8388608) kc_X6_314 (dq 36 rfl) ?_
      refine a_istore_n K (dq 37 rfl) rfl (Nat.le_of_ble_eq_true rfl) (ls' := [none, some (.float v1), some (.int v2), some (.int 8388608), none]) rfl ?_
      refine a_fload_n K (dq 38 rfl) rfl rfl ?_
      refine a_iload_n K (dq 39 rfl) rfl rfl ?_
      refine a_i2f K (dq 40 rfl) ?_
      obtain ⟨c4, h⟩ := nn32_some h
      refine a_fmul K (dq 41 rfl) c4 ?_
      refine a_f2i K (dq 42 rfl) ?_
      refine a_iload_n K (dq 43 rfl) rfl rfl ?_
      refine a_isub K (dq 44 rfl) ?_
      refine a_istore K (dq 45 rfl) (Nat.le_of_ble_eq_true rfl) (ls' := [none, some (.float v1), some (.int v2), some (.int 8388608), some (.int ((FP.f2i (FP.fmul v1 (FP.i2f 8388608))) - 8388608))]) rfl ?_
      refine a_iload_n K (dq 46 rfl) rfl rfl ?_
      refine a_bipush K (dq 47 rfl) (v := 127) rfl ?_
      refine a_iadd K (dq 48 rfl) ?_
      refine a_bipush K (dq 49 rfl) (v := 23) rfl ?_
      refine a_ishl K (dq 50 rfl) ?_
      refine a_iload K (dq 51 rfl) rfl ?_
      refine a_iadd K (dq 52 rfl) ?_
      obtain rfl := Option.some.inj h
      exact a_iret K rfl rfl (dq 53 rfl) (Nat.le_of_ble_eq_true rfl) (Nat.le_of_ble_eq_true rfl) rfl rfl
    · have h := ite_f c3 h
      refine a_fload_n K (dq 26 rfl) rfl rfl ?_
      refine a_fconst1 K (dq 27 rfl) ?_
      refine a_fcmp K (dq 28 rfl) ?_
      refine a_if_ge K (tgt := 56) (dq 29 rfl) rfl (fun c5 => ?_) (fun c5 => ?_)
      · have h := ite_t c5 h
        refine a_ldcw K (v := 8388608) kc_X6_314 (dq 36 rfl) ?_
        refine a_istore_n K (dq 37 rfl) rfl (Nat.le_of_ble_eq_true rfl) (ls' := [none, some (.float v1), some (.int v2), some (.int 8388608), none]) rfl ?_
        refine a_fload_n K (dq 38 rfl) rfl rfl ?_
        refine a_iload_n K (dq 39 rfl) rfl rfl ?_
        refine a_i2f K (dq 40 rfl) ?_
        obtain ⟨c6, h⟩ := nn32_some h
        refine a_fmul K (dq 41 rfl) c6 ?_
        refine a_f2i K (dq 42 rfl) ?_
        refine a_iload_n K (dq 43 rfl) rfl rfl ?_
        refine a_isub K (dq 44 rfl) ?_
        refine a_istore K (dq 45 rfl) (Nat.le_of_ble_eq_true rfl) (ls' := [none, some (.float v1), some (.int v2), some (.int 8388608), some (.int ((FP.f2i (FP.fmul v1 (FP.i2f 8388608))) - 8388608))]) rfl ?_
        refine a_iload_n K (dq 46 rfl) rfl rfl ?_
        refine a_bipush K (dq 47 rfl) (v := 127) rfl ?_
        refine a_iadd K (dq 48 rfl) ?_
        refine a_bipush K (dq 49 rfl) (v := 23) rfl ?_
        refine a_ishl K (dq 50 rfl) ?_
        refine a_iload K (dq 51 rfl) rfl ?_
        refine a_iadd K (dq 52 rfl) ?_
        obtain rfl := Option.some.inj h
        exact a_iret K rfl rfl (dq 53 rfl) (Nat.le_of_ble_eq_true rfl) (Nat.le_of_ble_eq_true rfl) rfl rfl
      · have h := ite_f c5 h
        refine a_fload_n K (dq 30 rfl) rfl rfl ?_
        refine a_fconst2 K (dq 31 rfl) ?_
        obtain ⟨c7, h⟩ := nn32_some h
        refine a_fmul K (dq 32 rfl) c7 ?_
        refine a_fstore_n K (dq 33 rfl) rfl (Nat.le_of_ble_eq_true rfl) (ls' := [none, some (.float (FP.fmul v1 FP.fconst2)), some (.int v2), none, none]) rfl ?_
        refine a_iinc K (dq 34 rfl) rfl (v := (v2 + (-1))) rfl (Nat.le_of_ble_eq_true rfl) (ls' := [none, some (.float (FP.fmul v1 FP.fconst2)), some (.int (v2 + (-1))), none, none]) rfl ?_
        refine a_goto K (tgt := 34) (dq 35 rfl) rfl ?_
        exact ih (FP.fmul v1 FP.fconst2) (v2 + (-1)) r h K hX
set_option maxRecDepth 20000 in
set_option maxHeartbeats 1000000 in
theorem s_X6_bitsOf_L12 {l : Launch} {D : va_G} {ty : Nat → ClassId} {ρ : Nat → Nat → Nat} {N0 : Nat} (S : St l ty ρ N0)   (σ : Sg) : ∀ (n : Nat) (v1 : UInt32) (v2 : Int32) (r : Int32) (h : p_X6_bitsOf_L12  σ n v1 v2 = some r) {p : Program} {e : Env} {s : State} {m : MethodId} {args : Array Value} {below : List Frame} {meth : Method} {c : Code} (K : Cx p l s m args meth c cX6_bitsOf 5 RX6 (some .int) D ty ρ N0) (hX : ∀ x ∈ c.exceptionTable.toList, False), WA p l e (rmk 1 0 0) s m args below meth c D ty ρ N0 5 (vx_MQ below (oQ D ty ρ N0 (oI r) σ) (oX D ty ρ N0 (oI r) σ) args s 0 0 (fun q => N0 ≤ q)) 12 [none, some (.float v1), some (.int v2), none, none] [] σ 0 0 := by
  intro n
  induction n with
  | zero =>
    intro v1 v2 r h
    simp only [p_X6_bitsOf_L12] at h
    cases h
  | succ n ih =>
    intro v1 v2 r h p e s m args below meth c K hX
    have dq := @tat _ _ dt_X6_bitsOf
    rw [p_X6_bitsOf_L12] at h
    refine a_iload_n K (dq 10 rfl) rfl rfl ?_
    refine a_bipush K (dq 11 rfl) (v := 127) rfl ?_
    refine a_icmp_ge K (tgt := 34) (dq 12 rfl) rfl (fun c2 => ?_) (fun c2 => ?_)
    · have h := ite_t c2 h
      exact s_X6_bitsOf_L34 S   σ 400 v1 v2 r h K hX
    · have h := ite_f c2 h
      refine a_fload_n K (dq 13 rfl) rfl rfl ?_
      refine a_fconst2 K (dq 14 rfl) ?_
      refine a_fcmp K (dq 15 rfl) ?_
      refine a_if_lt K (tgt := 34) (dq 16 rfl) rfl (fun c8 => ?_) (fun c8 => ?_)
      · have h := ite_t c8 h
        exact s_X6_bitsOf_L34 S   σ 400 v1 v2 r h K hX
      · have h := ite_f c8 h
        refine a_fload_n K (dq 17 rfl) rfl rfl ?_
        refine a_fconst2 K (dq 18 rfl) ?_
        obtain ⟨c9, h⟩ := nn32_some h
        refine a_fdiv K (dq 19 rfl) c9 ?_
        refine a_fstore_n K (dq 20 rfl) rfl (Nat.le_of_ble_eq_true rfl) (ls' := [none, some (.float (FP.fdiv v1 FP.fconst2)), some (.int v2), none, none]) rfl ?_
        refine a_iinc K (dq 21 rfl) rfl (v := (v2 + 1)) rfl (Nat.le_of_ble_eq_true rfl) (ls' := [none, some (.float (FP.fdiv v1 FP.fconst2)), some (.int (v2 + 1)), none, none]) rfl ?_
        refine a_goto K (tgt := 12) (dq 22 rfl) rfl ?_
        exact ih (FP.fdiv v1 FP.fconst2) (v2 + 1) r h K hX
set_option maxRecDepth 20000 in
set_option maxHeartbeats 1000000 in
theorem s_X6_bitsOf {l : Launch} {D : va_G} {ty : Nat → ClassId} {ρ : Nat → Nat → Nat} {N0 : Nat} (S : St l ty ρ N0) (a0 : UInt32)  (σ : Sg) (r : Int32) (h : p_X6_bitsOf a0 σ = some r) : AMet l D ty ρ N0 yX6_bitsOf (Cond.code yX6_bitsOf cX6_bitsOf 5 (some .int) :: GW) (rmk 1 0 0) [.float a0] σ (oI r) σ := by
  refine am_enter S (by decide) rfl rfl (Nat.le_of_ble_eq_true rfl) ?_
  intro p e s m args below meth c K hX
  have dq := @tat _ _ dt_X6_bitsOf
  unfold p_X6_bitsOf at h
  show WA p l e _ s m args below meth c D ty ρ N0 5 _ 0 [some (.float a0), none, none, none, none] [] σ 0 0
  refine a_fload_n K (dq 0 rfl) rfl rfl ?_
  refine a_fconst0 K (dq 1 rfl) ?_
  refine a_fcmp K (dq 2 rfl) ?_
  refine a_if_gt K (tgt := 8) (dq 3 rfl) rfl (fun c1 => ?_) (fun c1 => ?_)
  · have h := ite_t c1 h
    refine a_fload_n K (dq 6 rfl) rfl rfl ?_
    refine a_fstore_n K (dq 7 rfl) rfl (Nat.le_of_ble_eq_true rfl) (ls' := [some (.float a0), some (.float a0), none, none, none]) rfl ?_
    refine a_iconst K (dq 8 rfl) (v := 0) rfl ?_
    refine a_istore_n K (dq 9 rfl) rfl (Nat.le_of_ble_eq_true rfl) (ls' := [some (.float a0), some (.float a0), some (.int 0), none, none]) rfl ?_
    refine a_le2 (ls' := [none, some (.float a0), some (.int 0), none, none]) ⟨rfl, rfl, trivial⟩ ?_
    exact s_X6_bitsOf_L12 S   σ 400 a0 0 r h K hX
  · have h := ite_f c1 h
    refine a_iconst K (dq 4 rfl) (v := 0) rfl ?_
    obtain rfl := Option.some.inj h
    exact a_iret K rfl rfl (dq 5 rfl) (Nat.le_of_ble_eq_true rfl) (Nat.le_of_ble_eq_true rfl) rfl rfl
def t_X6_trees : List (Nat × Instr × Nat) := [(0, .iconst 0, 1), (1, .istore_n 1, 1), (2, .iconst 0, 1), (3, .istore_n 2, 1), (4, .iload_n 2, 1), (5, .aload_n 0, 1), (6, .getfield 10, 3), (9, .invokevirtual 152, 3), (12, .if_icmp .ge 24, 3), (15, .aload_n 0, 1), (16, .getfield 10, 3), (19, .iload_n 2, 1), (20, .invokevirtual 77, 3), (23, .iconst (-1), 1), (24, .if_icmp .ne 6, 3), (27, .iinc 1 1, 3), (30, .iinc 2 1, 3), (33, .goto (-29), 3), (36, .iload_n 1, 1), (37, .ireturn, 1)]
theorem dt_X6_trees : tblOK cX6_trees t_X6_trees = true := by decide +kernel
def p_X6_trees_L4  (σ : Sg) : Nat → Int32 → Int32 → Option Int32
  | 0, _, _ => none
  | n + 1, v1, v2 => (p_X1_farms  σ).bind fun r1 => if r1 ≤ v2 then (some v1) else ((p_X1_parentOf v2 σ).bind fun r3 => if r3 = (-1) then (p_X6_trees_L4 σ n (v1 + 1) (v2 + 1)) else (p_X6_trees_L4 σ n v1 (v2 + 1)))
def p_X6_trees  (σ : Sg) : Option Int32 :=
  p_X6_trees_L4 σ 400 0 0
set_option maxRecDepth 20000 in
set_option maxHeartbeats 1000000 in
theorem s_X6_trees_L4 {l : Launch} {D : va_G} {ty : Nat → ClassId} {ρ : Nat → Nat → Nat} {N0 : Nat} (S : St l ty ρ N0)   (σ : Sg) : ∀ (n : Nat) (v1 : Int32) (v2 : Int32) (r : Int32) (h : p_X6_trees_L4  σ n v1 v2 = some r) {p : Program} {e : Env} {s : State} {m : MethodId} {args : Array Value} {below : List Frame} {meth : Method} {c : Code} (K : Cx p l s m args meth c cX6_trees 3 RX6 (some .int) D ty ρ N0) (hX : ∀ x ∈ c.exceptionTable.toList, False), WA p l e (rmk 2 0 0) s m args below meth c D ty ρ N0 3 (vx_MQ below (oQ D ty ρ N0 (oI r) σ) (oX D ty ρ N0 (oI r) σ) args s 0 0 (fun q => N0 ≤ q)) 4 [some (.ref (ρ 0 0)), some (.int v1), some (.int v2)] [] σ 0 0 := by
  intro n
  induction n with
  | zero =>
    intro v1 v2 r h
    simp only [p_X6_trees_L4] at h
    cases h
  | succ n ih =>
    intro v1 v2 r h p e s m args below meth c K hX
    have dq := @tat _ _ dt_X6_trees
    rw [p_X6_trees_L4] at h
    refine a_iload_n K (dq 4 rfl) rfl rfl ?_
    refine a_aload_n K (dq 5 rfl) rfl rfl ?_
    refine a_get K (T := 0) (i := 0) (k := 0) (v := .ref (ρ 1 0)) v_0 rfl rfl in_X6 (Nat.le_of_ble_eq_true rfl) fl_X6_10 rfl (dq 6 rfl) ?_
    obtain ⟨r1, h1, h⟩ := bnd h
    refine a_callVi K (s_X1_farms S   σ r1 h1) v_1 rfl rfl cw_X1_farms ml_X6_152 (by decide) rfl (rest := [.int v2]) rfl (Nat.le_of_ble_eq_true rfl) (dq 7 rfl) (by decide) ?_
    refine a_icmp_ge K (tgt := 36) (dq 8 rfl) rfl (fun c2 => ?_) (fun c2 => ?_)
    · have h := ite_t c2 h
      refine a_iload_n K (dq 18 rfl) rfl rfl ?_
      obtain rfl := Option.some.inj h
      exact a_iret K rfl rfl (dq 19 rfl) (Nat.le_of_ble_eq_true rfl) (Nat.le_of_ble_eq_true rfl) rfl rfl
    · have h := ite_f c2 h
      refine a_aload_n K (dq 9 rfl) rfl rfl ?_
      refine a_get K (T := 0) (i := 0) (k := 0) (v := .ref (ρ 1 0)) v_0 rfl rfl in_X6 (Nat.le_of_ble_eq_true rfl) fl_X6_10 rfl (dq 10 rfl) ?_
      refine a_iload_n K (dq 11 rfl) rfl rfl ?_
      obtain ⟨r3, h3, h⟩ := bnd h
      refine a_callVi K (s_X1_parentOf S v2  σ r3 h3) v_1 rfl rfl cw_X1_parentOf ml_X6_77 (by decide) rfl (rest := []) rfl (Nat.le_of_ble_eq_true rfl) (dq 12 rfl) (by decide) ?_
      refine a_iconst K (dq 13 rfl) (v := (-1)) rfl ?_
      refine a_icmp_ne K (tgt := 30) (dq 14 rfl) rfl (fun c4 => ?_) (fun c4 => ?_)
      · have h := ite_f c4 h
        refine a_iinc K (dq 16 rfl) rfl (v := (v2 + 1)) rfl (Nat.le_of_ble_eq_true rfl) (ls' := [some (.ref (ρ 0 0)), some (.int v1), some (.int (v2 + 1))]) rfl ?_
        refine a_goto K (tgt := 4) (dq 17 rfl) rfl ?_
        exact ih v1 (v2 + 1) r h K hX
      · have h := ite_t c4 h
        refine a_iinc K (dq 15 rfl) rfl (v := (v1 + 1)) rfl (Nat.le_of_ble_eq_true rfl) (ls' := [some (.ref (ρ 0 0)), some (.int (v1 + 1)), some (.int v2)]) rfl ?_
        refine a_iinc K (dq 16 rfl) rfl (v := (v2 + 1)) rfl (Nat.le_of_ble_eq_true rfl) (ls' := [some (.ref (ρ 0 0)), some (.int (v1 + 1)), some (.int (v2 + 1))]) rfl ?_
        refine a_goto K (tgt := 4) (dq 17 rfl) rfl ?_
        exact ih (v1 + 1) (v2 + 1) r h K hX
set_option maxRecDepth 20000 in
set_option maxHeartbeats 1000000 in
theorem s_X6_trees {l : Launch} {D : va_G} {ty : Nat → ClassId} {ρ : Nat → Nat → Nat} {N0 : Nat} (S : St l ty ρ N0)   (σ : Sg) (r : Int32) (h : p_X6_trees  σ = some r) : AMet l D ty ρ N0 yX6_trees (Cond.code yX6_trees cX6_trees 3 (some .int) :: GW) (rmk 2 0 0) [.ref (ρ 0 0)] σ (oI r) σ := by
  refine am_enter S (by decide) rfl rfl (Nat.le_of_ble_eq_true rfl) ?_
  intro p e s m args below meth c K hX
  have dq := @tat _ _ dt_X6_trees
  unfold p_X6_trees at h
  show WA p l e _ s m args below meth c D ty ρ N0 3 _ 0 [some (.ref (ρ 0 0)), none, none] [] σ 0 0
  refine a_iconst K (dq 0 rfl) (v := 0) rfl ?_
  refine a_istore_n K (dq 1 rfl) rfl (Nat.le_of_ble_eq_true rfl) (ls' := [some (.ref (ρ 0 0)), some (.int 0), none]) rfl ?_
  refine a_iconst K (dq 2 rfl) (v := 0) rfl ?_
  refine a_istore_n K (dq 3 rfl) rfl (Nat.le_of_ble_eq_true rfl) (ls' := [some (.ref (ρ 0 0)), some (.int 0), some (.int 0)]) rfl ?_
  exact s_X6_trees_L4 S   σ 400 0 0 r h K hX
def t_X6_refusesToBuild : List (Nat × Instr × Nat) := [(0, .iload_n 1, 1), (1, .invokestatic 390, 3), (4, .ifCond .ne 13, 3), (7, .aload_n 0, 1), (8, .getfield 32, 3), (11, .iconst 1, 1), (12, .iconst 0, 1), (13, .invokevirtual 388, 3), (16, .ireturn, 1), (17, .aload_n 0, 1), (18, .getfield 10, 3), (21, .invokevirtual 152, 3), (24, .bipush 12, 2), (26, .if_icmp .lt 19, 3), (29, .aload_n 0, 1), (30, .getfield 32, 3), (33, .iconst 2, 1), (34, .iconst 0, 1), (35, .invokevirtual 388, 3), (38, .ifCond .eq 7, 3), (41, .iconst 1, 1), (42, .goto 4, 3), (45, .iconst 0, 1), (46, .ireturn, 1)]
theorem dt_X6_refusesToBuild : tblOK cX6_refusesToBuild t_X6_refusesToBuild = true := by decide +kernel
def p_X6_refusesToBuild (a1 : Int32) (σ : Sg) : Option (Int32 × Sg) :=
  (p_X6_isToll a1 σ).bind fun r1 => if r1 = 0 then ((p_X3_keep 1 0 σ).bind fun r7 => some (nb r7.1, r7.2)) else ((p_X1_farms  σ).bind fun r3 => if r3 < 12 then (some (0, σ)) else ((p_X3_keep 2 0 σ).bind fun r5 => if r5.1 = 0 then (some (0, r5.2)) else (some (1, r5.2))))
set_option maxRecDepth 20000 in
set_option maxHeartbeats 1000000 in
theorem s_X6_refusesToBuild {l : Launch} {D : va_G} {ty : Nat → ClassId} {ρ : Nat → Nat → Nat} {N0 : Nat} (S : St l ty ρ N0) (a1 : Int32)  (σ : Sg) (r : (Int32 × Sg)) (h : p_X6_refusesToBuild a1 σ = some r) : AMet l D ty ρ N0 yX6_refusesToBuild (Cond.code yX6_refusesToBuild cX6_refusesToBuild 2 (some .boolean) :: GW) (rmk 2 0 0) [.ref (ρ 0 0), .int a1] σ (oI r.1) r.2 := by
  refine am_enter S (by decide) rfl rfl (Nat.le_of_ble_eq_true rfl) ?_
  intro p e s m args below meth c K hX
  have dq := @tat _ _ dt_X6_refusesToBuild
  unfold p_X6_refusesToBuild at h
  show WA p l e _ s m args below meth c D ty ρ N0 2 _ 0 [some (.ref (ρ 0 0)), some (.int a1)] [] σ 0 0
  refine a_iload_n K (dq 0 rfl) rfl rfl ?_
  obtain ⟨r1, h1, h⟩ := bnd h
  refine a_callSi K (s_X6_isToll S a1  σ r1 h1) cw_X6_isToll ml_X6_390 (by decide) rfl (rest := []) rfl (Nat.le_of_ble_eq_true rfl) (dq 1 rfl) (by decide) ?_
  refine a_if_ne K (tgt := 17) (dq 2 rfl) rfl (fun c2 => ?_) (fun c2 => ?_)
  · have h := ite_f c2 h
    refine a_aload_n K (dq 9 rfl) rfl rfl ?_
    refine a_get K (T := 0) (i := 0) (k := 0) (v := .ref (ρ 1 0)) v_0 rfl rfl in_X6 (Nat.le_of_ble_eq_true rfl) fl_X6_10 rfl (dq 10 rfl) ?_
    obtain ⟨r3, h3, h⟩ := bnd h
    refine a_callVi K (s_X1_farms S   σ r3 h3) v_1 rfl rfl cw_X1_farms ml_X6_152 (by decide) rfl (rest := []) rfl (Nat.le_of_ble_eq_true rfl) (dq 11 rfl) (by decide) ?_
    refine a_bipush K (dq 12 rfl) (v := 12) rfl ?_
    refine a_icmp_lt K (tgt := 45) (dq 13 rfl) rfl (fun c4 => ?_) (fun c4 => ?_)
    · have h := ite_t c4 h
      refine a_iconst K (dq 22 rfl) (v := 0) rfl ?_
      obtain rfl := Option.some.inj h
      exact a_iret K rfl rfl (dq 23 rfl) (Nat.le_of_ble_eq_true rfl) (Nat.le_of_ble_eq_true rfl) rfl rfl
    · have h := ite_f c4 h
      refine a_aload_n K (dq 14 rfl) rfl rfl ?_
      refine a_get K (T := 0) (i := 0) (k := 5) (v := .ref (ρ 8 0)) v_0 rfl rfl in_X6 (Nat.le_of_ble_eq_true rfl) fl_X6_32 rfl (dq 15 rfl) ?_
      refine a_iconst K (dq 16 rfl) (v := 2) rfl ?_
      refine a_iconst K (dq 17 rfl) (v := 0) rfl ?_
      obtain ⟨r5, h5, h⟩ := bnd h
      refine a_callVi K (s_X3_keep S 2 0  σ r5 h5) v_8 rfl rfl cw_X3_keep ml_X6_388 (by decide) rfl (rest := []) rfl (Nat.le_of_ble_eq_true rfl) (dq 18 rfl) (by decide) ?_
      refine a_if_eq K (tgt := 45) (dq 19 rfl) rfl (fun c6 => ?_) (fun c6 => ?_)
      · have h := ite_t c6 h
        refine a_iconst K (dq 22 rfl) (v := 0) rfl ?_
        obtain rfl := Option.some.inj h
        exact a_iret K rfl rfl (dq 23 rfl) (Nat.le_of_ble_eq_true rfl) (Nat.le_of_ble_eq_true rfl) rfl rfl
      · have h := ite_f c6 h
        refine a_iconst K (dq 20 rfl) (v := 1) rfl ?_
        refine a_goto K (tgt := 46) (dq 21 rfl) rfl ?_
        obtain rfl := Option.some.inj h
        exact a_iret K rfl rfl (dq 23 rfl) (Nat.le_of_ble_eq_true rfl) (Nat.le_of_ble_eq_true rfl) rfl rfl
  · have h := ite_t c2 h
    refine a_aload_n K (dq 3 rfl) rfl rfl ?_
    refine a_get K (T := 0) (i := 0) (k := 5) (v := .ref (ρ 8 0)) v_0 rfl rfl in_X6 (Nat.le_of_ble_eq_true rfl) fl_X6_32 rfl (dq 4 rfl) ?_
    refine a_iconst K (dq 5 rfl) (v := 1) rfl ?_
    refine a_iconst K (dq 6 rfl) (v := 0) rfl ?_
    obtain ⟨r7, h7, h⟩ := bnd h
    refine a_callVi K (s_X3_keep S 1 0  σ r7 h7) v_8 rfl rfl cw_X3_keep ml_X6_388 (by decide) rfl (rest := []) rfl (Nat.le_of_ble_eq_true rfl) (dq 7 rfl) (by decide) ?_
    obtain rfl := Option.some.inj h
    exact a_iret K rfl rfl (dq 8 rfl) (Nat.le_of_ble_eq_true rfl) (Nat.le_of_ble_eq_true rfl) rfl rfl
def t_X6_refusesFarm : List (Nat × Instr × Nat) := [(0, .aload_n 0, 1), (1, .getfield 10, 3), (4, .iload_n 1, 1), (5, .invokevirtual 136, 3), (8, .ifCond .ne 19, 3), (11, .aload_n 0, 1), (12, .getfield 32, 3), (15, .iconst 3, 1), (16, .iload_n 1, 1), (17, .invokevirtual 388, 3), (20, .ifCond .eq 7, 3), (23, .iconst 1, 1), (24, .goto 4, 3), (27, .iconst 0, 1), (28, .ireturn, 1)]
theorem dt_X6_refusesFarm : tblOK cX6_refusesFarm t_X6_refusesFarm = true := by decide +kernel
def p_X6_refusesFarm (a1 : Int32) (σ : Sg) : Option (Int32 × Sg) :=
  (p_X1_has a1 σ).bind fun r1 => if r1 = 0 then ((p_X3_keep 3 a1 σ).bind fun r3 => if r3.1 = 0 then (some (0, r3.2)) else (some (1, r3.2))) else (some (0, σ))
set_option maxRecDepth 20000 in
set_option maxHeartbeats 1000000 in
theorem s_X6_refusesFarm {l : Launch} {D : va_G} {ty : Nat → ClassId} {ρ : Nat → Nat → Nat} {N0 : Nat} (S : St l ty ρ N0) (a1 : Int32)  (σ : Sg) (r : (Int32 × Sg)) (h : p_X6_refusesFarm a1 σ = some r) : AMet l D ty ρ N0 yX6_refusesFarm (Cond.code yX6_refusesFarm cX6_refusesFarm 2 (some .boolean) :: GW) (rmk 2 0 0) [.ref (ρ 0 0), .int a1] σ (oI r.1) r.2 := by
  refine am_enter S (by decide) rfl rfl (Nat.le_of_ble_eq_true rfl) ?_
  intro p e s m args below meth c K hX
  have dq := @tat _ _ dt_X6_refusesFarm
  unfold p_X6_refusesFarm at h
  show WA p l e _ s m args below meth c D ty ρ N0 2 _ 0 [some (.ref (ρ 0 0)), some (.int a1)] [] σ 0 0
  refine a_aload_n K (dq 0 rfl) rfl rfl ?_
  refine a_get K (T := 0) (i := 0) (k := 0) (v := .ref (ρ 1 0)) v_0 rfl rfl in_X6 (Nat.le_of_ble_eq_true rfl) fl_X6_10 rfl (dq 1 rfl) ?_
  refine a_iload_n K (dq 2 rfl) rfl rfl ?_
  obtain ⟨r1, h1, h⟩ := bnd h
  refine a_callVi K (s_X1_has S a1  σ r1 h1) v_1 rfl rfl cw_X1_has ml_X6_136 (by decide) rfl (rest := []) rfl (Nat.le_of_ble_eq_true rfl) (dq 3 rfl) (by decide) ?_
  refine a_if_ne K (tgt := 27) (dq 4 rfl) rfl (fun c2 => ?_) (fun c2 => ?_)
  · have h := ite_f c2 h
    refine a_iconst K (dq 13 rfl) (v := 0) rfl ?_
    obtain rfl := Option.some.inj h
    exact a_iret K rfl rfl (dq 14 rfl) (Nat.le_of_ble_eq_true rfl) (Nat.le_of_ble_eq_true rfl) rfl rfl
  · have h := ite_t c2 h
    refine a_aload_n K (dq 5 rfl) rfl rfl ?_
    refine a_get K (T := 0) (i := 0) (k := 5) (v := .ref (ρ 8 0)) v_0 rfl rfl in_X6 (Nat.le_of_ble_eq_true rfl) fl_X6_32 rfl (dq 6 rfl) ?_
    refine a_iconst K (dq 7 rfl) (v := 3) rfl ?_
    refine a_iload_n K (dq 8 rfl) rfl rfl ?_
    obtain ⟨r3, h3, h⟩ := bnd h
    refine a_callVi K (s_X3_keep S 3 a1  σ r3 h3) v_8 rfl rfl cw_X3_keep ml_X6_388 (by decide) rfl (rest := []) rfl (Nat.le_of_ble_eq_true rfl) (dq 9 rfl) (by decide) ?_
    refine a_if_eq K (tgt := 27) (dq 10 rfl) rfl (fun c4 => ?_) (fun c4 => ?_)
    · have h := ite_t c4 h
      refine a_iconst K (dq 13 rfl) (v := 0) rfl ?_
      obtain rfl := Option.some.inj h
      exact a_iret K rfl rfl (dq 14 rfl) (Nat.le_of_ble_eq_true rfl) (Nat.le_of_ble_eq_true rfl) rfl rfl
    · have h := ite_f c4 h
      refine a_iconst K (dq 11 rfl) (v := 1) rfl ?_
      refine a_goto K (tgt := 28) (dq 12 rfl) rfl ?_
      obtain rfl := Option.some.inj h
      exact a_iret K rfl rfl (dq 14 rfl) (Nat.le_of_ble_eq_true rfl) (Nat.le_of_ble_eq_true rfl) rfl rfl
def t_X6_refusesToGiveUp : List (Nat × Instr × Nat) := [(0, .aload_n 0, 1), (1, .iload_n 1, 1), (2, .invokevirtual 356, 3), (5, .ifCond .ne 11, 3), (8, .aload_n 0, 1), (9, .iload_n 2, 1), (10, .invokevirtual 356, 3), (13, .ifCond .eq 5, 3), (16, .iconst 1, 1), (17, .ireturn, 1), (18, .aload_n 0, 1), (19, .getfield 10, 3), (22, .iload_n 1, 1), (23, .iload_n 2, 1), (24, .invokevirtual 133, 3), (27, .ifCond .ne 20, 3), (30, .aload_n 0, 1), (31, .getfield 32, 3), (34, .bipush 6, 2), (36, .iconst 0, 1), (37, .invokevirtual 388, 3), (40, .ifCond .eq 7, 3), (43, .iconst 1, 1), (44, .goto 4, 3), (47, .iconst 0, 1), (48, .ireturn, 1)]
theorem dt_X6_refusesToGiveUp : tblOK cX6_refusesToGiveUp t_X6_refusesToGiveUp = true := by decide +kernel
def p_X6_refusesToGiveUp (a1 : Int32) (a2 : Int32) (σ : Sg) : Option (Int32 × Sg) :=
  (p_X6_refusesFarm a1 σ).bind fun r1 => if r1.1 = 0 then ((p_X6_refusesFarm a2 r1.2).bind fun r3 => if r3.1 = 0 then ((p_X1_hasTrack a1 a2 r3.2).bind fun r5 => if r5 = 0 then ((p_X3_keep 6 0 r3.2).bind fun r7 => if r7.1 = 0 then (some (0, r7.2)) else (some (1, r7.2))) else (some (0, r3.2))) else (some (1, r3.2))) else (some (1, r1.2))
set_option maxRecDepth 20000 in
set_option maxHeartbeats 1000000 in
theorem s_X6_refusesToGiveUp {l : Launch} {D : va_G} {ty : Nat → ClassId} {ρ : Nat → Nat → Nat} {N0 : Nat} (S : St l ty ρ N0) (a1 : Int32) (a2 : Int32)  (σ : Sg) (r : (Int32 × Sg)) (h : p_X6_refusesToGiveUp a1 a2 σ = some r) : AMet l D ty ρ N0 yX6_refusesToGiveUp (Cond.code yX6_refusesToGiveUp cX6_refusesToGiveUp 3 (some .boolean) :: GW) (rmk 3 0 0) [.ref (ρ 0 0), .int a1, .int a2] σ (oI r.1) r.2 := by
  refine am_enter S (by decide) rfl rfl (Nat.le_of_ble_eq_true rfl) ?_
  intro p e s m args below meth c K hX
  have dq := @tat _ _ dt_X6_refusesToGiveUp
  unfold p_X6_refusesToGiveUp at h
  show WA p l e _ s m args below meth c D ty ρ N0 3 _ 0 [some (.ref (ρ 0 0)), some (.int a1), some (.int a2)] [] σ 0 0
  refine a_aload_n K (dq 0 rfl) rfl rfl ?_
  refine a_iload_n K (dq 1 rfl) rfl rfl ?_
  obtain ⟨r1, h1, h⟩ := bnd h
  refine a_callVi K (s_X6_refusesFarm S a1  σ r1 h1) v_0 rfl rfl cw_X6_refusesFarm ml_X6_356 (by decide) rfl (rest := []) rfl (Nat.le_of_ble_eq_true rfl) (dq 2 rfl) (by decide) ?_
  refine a_if_ne K (tgt := 16) (dq 3 rfl) rfl (fun c2 => ?_) (fun c2 => ?_)
  · have h := ite_f c2 h
    refine a_iconst K (dq 8 rfl) (v := 1) rfl ?_
    obtain rfl := Option.some.inj h
    exact a_iret K rfl rfl (dq 9 rfl) (Nat.le_of_ble_eq_true rfl) (Nat.le_of_ble_eq_true rfl) rfl rfl
  · have h := ite_t c2 h
    refine a_aload_n K (dq 4 rfl) rfl rfl ?_
    refine a_iload_n K (dq 5 rfl) rfl rfl ?_
    obtain ⟨r3, h3, h⟩ := bnd h
    refine a_callVi K (s_X6_refusesFarm S a2  r1.2 r3 h3) v_0 rfl rfl cw_X6_refusesFarm ml_X6_356 (by decide) rfl (rest := []) rfl (Nat.le_of_ble_eq_true rfl) (dq 6 rfl) (by decide) ?_
    refine a_if_eq K (tgt := 18) (dq 7 rfl) rfl (fun c4 => ?_) (fun c4 => ?_)
    · have h := ite_t c4 h
      refine a_aload_n K (dq 10 rfl) rfl rfl ?_
      refine a_get K (T := 0) (i := 0) (k := 0) (v := .ref (ρ 1 0)) v_0 rfl rfl in_X6 (Nat.le_of_ble_eq_true rfl) fl_X6_10 rfl (dq 11 rfl) ?_
      refine a_iload_n K (dq 12 rfl) rfl rfl ?_
      refine a_iload_n K (dq 13 rfl) rfl rfl ?_
      obtain ⟨r5, h5, h⟩ := bnd h
      refine a_callVi K (s_X1_hasTrack S a1 a2  r3.2 r5 h5) v_1 rfl rfl cw_X1_hasTrack ml_X6_133 (by decide) rfl (rest := []) rfl (Nat.le_of_ble_eq_true rfl) (dq 14 rfl) (by decide) ?_
      refine a_if_ne K (tgt := 47) (dq 15 rfl) rfl (fun c6 => ?_) (fun c6 => ?_)
      · have h := ite_f c6 h
        refine a_iconst K (dq 24 rfl) (v := 0) rfl ?_
        obtain rfl := Option.some.inj h
        exact a_iret K rfl rfl (dq 25 rfl) (Nat.le_of_ble_eq_true rfl) (Nat.le_of_ble_eq_true rfl) rfl rfl
      · have h := ite_t c6 h
        refine a_aload_n K (dq 16 rfl) rfl rfl ?_
        refine a_get K (T := 0) (i := 0) (k := 5) (v := .ref (ρ 8 0)) v_0 rfl rfl in_X6 (Nat.le_of_ble_eq_true rfl) fl_X6_32 rfl (dq 17 rfl) ?_
        refine a_bipush K (dq 18 rfl) (v := 6) rfl ?_
        refine a_iconst K (dq 19 rfl) (v := 0) rfl ?_
        obtain ⟨r7, h7, h⟩ := bnd h
        refine a_callVi K (s_X3_keep S 6 0  r3.2 r7 h7) v_8 rfl rfl cw_X3_keep ml_X6_388 (by decide) rfl (rest := []) rfl (Nat.le_of_ble_eq_true rfl) (dq 20 rfl) (by decide) ?_
        refine a_if_eq K (tgt := 47) (dq 21 rfl) rfl (fun c8 => ?_) (fun c8 => ?_)
        · have h := ite_t c8 h
          refine a_iconst K (dq 24 rfl) (v := 0) rfl ?_
          obtain rfl := Option.some.inj h
          exact a_iret K rfl rfl (dq 25 rfl) (Nat.le_of_ble_eq_true rfl) (Nat.le_of_ble_eq_true rfl) rfl rfl
        · have h := ite_f c8 h
          refine a_iconst K (dq 22 rfl) (v := 1) rfl ?_
          refine a_goto K (tgt := 48) (dq 23 rfl) rfl ?_
          obtain rfl := Option.some.inj h
          exact a_iret K rfl rfl (dq 25 rfl) (Nat.le_of_ble_eq_true rfl) (Nat.le_of_ble_eq_true rfl) rfl rfl
    · have h := ite_f c4 h
      refine a_iconst K (dq 8 rfl) (v := 1) rfl ?_
      obtain rfl := Option.some.inj h
      exact a_iret K rfl rfl (dq 9 rfl) (Nat.le_of_ble_eq_true rfl) (Nat.le_of_ble_eq_true rfl) rfl rfl
def t_X6_refusesToRoot : List (Nat × Instr × Nat) := [(0, .aload_n 0, 1), (1, .iload_n 1, 1), (2, .invokevirtual 356, 3), (5, .ifCond .eq 5, 3), (8, .iconst 1, 1), (9, .ireturn, 1), (10, .aload_n 0, 1), (11, .getfield 10, 3), (14, .iload_n 1, 1), (15, .invokevirtual 77, 3), (18, .iconst (-1), 1), (19, .if_icmp .ne 20, 3), (22, .aload_n 0, 1), (23, .getfield 32, 3), (26, .bipush 8, 2), (28, .iload_n 1, 1), (29, .invokevirtual 388, 3), (32, .ifCond .eq 7, 3), (35, .iconst 1, 1), (36, .goto 4, 3), (39, .iconst 0, 1), (40, .ireturn, 1)]
theorem dt_X6_refusesToRoot : tblOK cX6_refusesToRoot t_X6_refusesToRoot = true := by decide +kernel
def p_X6_refusesToRoot (a1 : Int32) (σ : Sg) : Option (Int32 × Sg) :=
  (p_X6_refusesFarm a1 σ).bind fun r1 => if r1.1 = 0 then ((p_X1_parentOf a1 r1.2).bind fun r3 => if r3 = (-1) then ((p_X3_keep 8 a1 r1.2).bind fun r5 => if r5.1 = 0 then (some (0, r5.2)) else (some (1, r5.2))) else (some (0, r1.2))) else (some (1, r1.2))
set_option maxRecDepth 20000 in
set_option maxHeartbeats 1000000 in
theorem s_X6_refusesToRoot {l : Launch} {D : va_G} {ty : Nat → ClassId} {ρ : Nat → Nat → Nat} {N0 : Nat} (S : St l ty ρ N0) (a1 : Int32)  (σ : Sg) (r : (Int32 × Sg)) (h : p_X6_refusesToRoot a1 σ = some r) : AMet l D ty ρ N0 yX6_refusesToRoot (Cond.code yX6_refusesToRoot cX6_refusesToRoot 2 (some .boolean) :: GW) (rmk 3 0 0) [.ref (ρ 0 0), .int a1] σ (oI r.1) r.2 := by
  refine am_enter S (by decide) rfl rfl (Nat.le_of_ble_eq_true rfl) ?_
  intro p e s m args below meth c K hX
  have dq := @tat _ _ dt_X6_refusesToRoot
  unfold p_X6_refusesToRoot at h
  show WA p l e _ s m args below meth c D ty ρ N0 2 _ 0 [some (.ref (ρ 0 0)), some (.int a1)] [] σ 0 0
  refine a_aload_n K (dq 0 rfl) rfl rfl ?_
  refine a_iload_n K (dq 1 rfl) rfl rfl ?_
  obtain ⟨r1, h1, h⟩ := bnd h
  refine a_callVi K (s_X6_refusesFarm S a1  σ r1 h1) v_0 rfl rfl cw_X6_refusesFarm ml_X6_356 (by decide) rfl (rest := []) rfl (Nat.le_of_ble_eq_true rfl) (dq 2 rfl) (by decide) ?_
  refine a_if_eq K (tgt := 10) (dq 3 rfl) rfl (fun c2 => ?_) (fun c2 => ?_)
  · have h := ite_t c2 h
    refine a_aload_n K (dq 6 rfl) rfl rfl ?_
    refine a_get K (T := 0) (i := 0) (k := 0) (v := .ref (ρ 1 0)) v_0 rfl rfl in_X6 (Nat.le_of_ble_eq_true rfl) fl_X6_10 rfl (dq 7 rfl) ?_
    refine a_iload_n K (dq 8 rfl) rfl rfl ?_
    obtain ⟨r3, h3, h⟩ := bnd h
    refine a_callVi K (s_X1_parentOf S a1  r1.2 r3 h3) v_1 rfl rfl cw_X1_parentOf ml_X6_77 (by decide) rfl (rest := []) rfl (Nat.le_of_ble_eq_true rfl) (dq 9 rfl) (by decide) ?_
    refine a_iconst K (dq 10 rfl) (v := (-1)) rfl ?_
    refine a_icmp_ne K (tgt := 39) (dq 11 rfl) rfl (fun c4 => ?_) (fun c4 => ?_)
    · have h := ite_f c4 h
      refine a_iconst K (dq 20 rfl) (v := 0) rfl ?_
      obtain rfl := Option.some.inj h
      exact a_iret K rfl rfl (dq 21 rfl) (Nat.le_of_ble_eq_true rfl) (Nat.le_of_ble_eq_true rfl) rfl rfl
    · have h := ite_t c4 h
      refine a_aload_n K (dq 12 rfl) rfl rfl ?_
      refine a_get K (T := 0) (i := 0) (k := 5) (v := .ref (ρ 8 0)) v_0 rfl rfl in_X6 (Nat.le_of_ble_eq_true rfl) fl_X6_32 rfl (dq 13 rfl) ?_
      refine a_bipush K (dq 14 rfl) (v := 8) rfl ?_
      refine a_iload_n K (dq 15 rfl) rfl rfl ?_
      obtain ⟨r5, h5, h⟩ := bnd h
      refine a_callVi K (s_X3_keep S 8 a1  r1.2 r5 h5) v_8 rfl rfl cw_X3_keep ml_X6_388 (by decide) rfl (rest := []) rfl (Nat.le_of_ble_eq_true rfl) (dq 16 rfl) (by decide) ?_
      refine a_if_eq K (tgt := 39) (dq 17 rfl) rfl (fun c6 => ?_) (fun c6 => ?_)
      · have h := ite_t c6 h
        refine a_iconst K (dq 20 rfl) (v := 0) rfl ?_
        obtain rfl := Option.some.inj h
        exact a_iret K rfl rfl (dq 21 rfl) (Nat.le_of_ble_eq_true rfl) (Nat.le_of_ble_eq_true rfl) rfl rfl
      · have h := ite_f c6 h
        refine a_iconst K (dq 18 rfl) (v := 1) rfl ?_
        refine a_goto K (tgt := 40) (dq 19 rfl) rfl ?_
        obtain rfl := Option.some.inj h
        exact a_iret K rfl rfl (dq 21 rfl) (Nat.le_of_ble_eq_true rfl) (Nat.le_of_ble_eq_true rfl) rfl rfl
  · have h := ite_f c2 h
    refine a_iconst K (dq 4 rfl) (v := 1) rfl ?_
    obtain rfl := Option.some.inj h
    exact a_iret K rfl rfl (dq 5 rfl) (Nat.le_of_ble_eq_true rfl) (Nat.le_of_ble_eq_true rfl) rfl rfl
def t_X6_refusesToDrive : List (Nat × Instr × Nat) := [(0, .iload_n 1, 1), (1, .invokestatic 165, 3), (4, .ifCond .ne 13, 3), (7, .aload_n 0, 1), (8, .getfield 32, 3), (11, .iconst 1, 1), (12, .iconst 0, 1), (13, .invokevirtual 388, 3), (16, .ireturn, 1), (17, .aload_n 0, 1), (18, .iload_n 2, 1), (19, .invokevirtual 356, 3), (22, .ifCond .eq 5, 3), (25, .iconst 1, 1), (26, .ireturn, 1), (27, .aload_n 0, 1), (28, .getfield 10, 3), (31, .iload_n 1, 1), (32, .invokevirtual 173, 3), (35, .istore_n 3, 1), (36, .iload_n 3, 1), (37, .iload_n 2, 1), (38, .if_icmp .ne 14, 3), (41, .aload_n 0, 1), (42, .getfield 32, 3), (45, .bipush 10, 2), (47, .iload_n 2, 1), (48, .invokevirtual 388, 3), (51, .ireturn, 1), (52, .iload_n 3, 1), (53, .iconst (-1), 1), (54, .if_icmp .eq 15, 3), (57, .aload_n 0, 1), (58, .getfield 10, 3), (61, .iload_n 3, 1), (62, .iload_n 2, 1), (63, .invokevirtual 129, 3), (66, .ifCond .eq 7, 3), (69, .iconst 1, 1), (70, .goto 4, 3), (73, .iconst 0, 1), (74, .istore 4, 2), (76, .iload 4, 2), (78, .ifCond .ne 27, 3), (81, .aload_n 0, 1), (82, .getfield 32, 3), (85, .bipush 7, 2), (87, .aload_n 0, 1), (88, .getfield 10, 3), (91, .iload_n 3, 1), (92, .invokevirtual 153, 3), (95, .invokevirtual 388, 3), (98, .ifCond .eq 7, 3), (101, .iconst 1, 1), (102, .goto 4, 3), (105, .iconst 0, 1), (106, .ireturn, 1)]
theorem dt_X6_refusesToDrive : tblOK cX6_refusesToDrive t_X6_refusesToDrive = true := by decide +kernel
def p_X6_refusesToDrive (a1 : Int32) (a2 : Int32) (σ : Sg) : Option (Int32 × Sg) :=
  (p_X6_isDrover a1 σ).bind fun r1 => if r1 = 0 then ((p_X3_keep 1 0 σ).bind fun r17 => some (nb r17.1, r17.2)) else ((p_X6_refusesFarm a2 σ).bind fun r3 => if r3.1 = 0 then ((p_X1_farmOfDrover a1 r3.2).bind fun r5 => if r5 = a2 then ((p_X3_keep 10 a2 r3.2).bind fun r16 => some (nb r16.1, r16.2)) else (if r5 = (-1) then (some (0, r3.2)) else ((p_X1_areJoined r5 a2 r3.2).bind fun r9 => if r9 = 0 then ((p_X1_treeSizeOf r5 r3.2).bind fun r12 => (p_X3_keep 7 r12 r3.2).bind fun r13 => if r13.1 = 0 then (some (0, r13.2)) else (some (1, r13.2))) else (some (0, r3.2))))) else (some (1, r3.2)))
set_option maxRecDepth 20000 in
set_option maxHeartbeats 1000000 in
theorem s_X6_refusesToDrive {l : Launch} {D : va_G} {ty : Nat → ClassId} {ρ : Nat → Nat → Nat} {N0 : Nat} (S : St l ty ρ N0) (a1 : Int32) (a2 : Int32)  (σ : Sg) (r : (Int32 × Sg)) (h : p_X6_refusesToDrive a1 a2 σ = some r) : AMet l D ty ρ N0 yX6_refusesToDrive (Cond.code yX6_refusesToDrive cX6_refusesToDrive 5 (some .boolean) :: GW) (rmk 4 0 0) [.ref (ρ 0 0), .int a1, .int a2] σ (oI r.1) r.2 := by
  refine am_enter S (by decide) rfl rfl (Nat.le_of_ble_eq_true rfl) ?_
  intro p e s m args below meth c K hX
  have dq := @tat _ _ dt_X6_refusesToDrive
  unfold p_X6_refusesToDrive at h
  show WA p l e _ s m args below meth c D ty ρ N0 5 _ 0 [some (.ref (ρ 0 0)), some (.int a1), some (.int a2), none, none] [] σ 0 0
  refine a_iload_n K (dq 0 rfl) rfl rfl ?_
  obtain ⟨r1, h1, h⟩ := bnd h
  refine a_callSi K (s_X6_isDrover S a1  σ r1 h1) cw_X6_isDrover ml_X6_165 (by decide) rfl (rest := []) rfl (Nat.le_of_ble_eq_true rfl) (dq 1 rfl) (by decide) ?_
  refine a_if_ne K (tgt := 17) (dq 2 rfl) rfl (fun c2 => ?_) (fun c2 => ?_)
  · have h := ite_f c2 h
    refine a_aload_n K (dq 9 rfl) rfl rfl ?_
    refine a_iload_n K (dq 10 rfl) rfl rfl ?_
    obtain ⟨r3, h3, h⟩ := bnd h
    refine a_callVi K (s_X6_refusesFarm S a2  σ r3 h3) v_0 rfl rfl cw_X6_refusesFarm ml_X6_356 (by decide) rfl (rest := []) rfl (Nat.le_of_ble_eq_true rfl) (dq 11 rfl) (by decide) ?_
    refine a_if_eq K (tgt := 27) (dq 12 rfl) rfl (fun c4 => ?_) (fun c4 => ?_)
    · have h := ite_t c4 h
      refine a_aload_n K (dq 15 rfl) rfl rfl ?_
      refine a_get K (T := 0) (i := 0) (k := 0) (v := .ref (ρ 1 0)) v_0 rfl rfl in_X6 (Nat.le_of_ble_eq_true rfl) fl_X6_10 rfl (dq 16 rfl) ?_
      refine a_iload_n K (dq 17 rfl) rfl rfl ?_
      obtain ⟨r5, h5, h⟩ := bnd h
      refine a_callVi K (s_X1_farmOfDrover S a1  r3.2 r5 h5) v_1 rfl rfl cw_X1_farmOfDrover ml_X6_173 (by decide) rfl (rest := []) rfl (Nat.le_of_ble_eq_true rfl) (dq 18 rfl) (by decide) ?_
      refine a_istore_n K (dq 19 rfl) rfl (Nat.le_of_ble_eq_true rfl) (ls' := [some (.ref (ρ 0 0)), some (.int a1), some (.int a2), some (.int r5), none]) rfl ?_
      refine a_iload_n K (dq 20 rfl) rfl rfl ?_
      refine a_iload_n K (dq 21 rfl) rfl rfl ?_
      refine a_icmp_ne K (tgt := 52) (dq 22 rfl) rfl (fun c6 => ?_) (fun c6 => ?_)
      · have h := ite_f c6 h
        refine a_iload_n K (dq 29 rfl) rfl rfl ?_
        refine a_iconst K (dq 30 rfl) (v := (-1)) rfl ?_
        refine a_icmp_eq K (tgt := 69) (dq 31 rfl) rfl (fun c7 => ?_) (fun c7 => ?_)
        · have h := ite_t c7 h
          refine a_iconst K (dq 38 rfl) (v := 1) rfl ?_
          refine a_goto K (tgt := 74) (dq 39 rfl) rfl ?_
          refine a_istore K (dq 41 rfl) (Nat.le_of_ble_eq_true rfl) (ls' := [some (.ref (ρ 0 0)), some (.int a1), some (.int a2), some (.int r5), some (.int 1)]) rfl ?_
          refine a_iload K (dq 42 rfl) rfl ?_
          refine a_if_ne K (tgt := 105) (dq 43 rfl) rfl (fun c8 => ?_) (fun c8 => ?_)
          · refine a_iconst K (dq 55 rfl) (v := 0) rfl ?_
            obtain rfl := Option.some.inj h
            exact a_iret K rfl rfl (dq 56 rfl) (Nat.le_of_ble_eq_true rfl) (Nat.le_of_ble_eq_true rfl) rfl rfl
          · exact absurd c8 (by decide)
        · have h := ite_f c7 h
          refine a_aload_n K (dq 32 rfl) rfl rfl ?_
          refine a_get K (T := 0) (i := 0) (k := 0) (v := .ref (ρ 1 0)) v_0 rfl rfl in_X6 (Nat.le_of_ble_eq_true rfl) fl_X6_10 rfl (dq 33 rfl) ?_
          refine a_iload_n K (dq 34 rfl) rfl rfl ?_
          refine a_iload_n K (dq 35 rfl) rfl rfl ?_
          obtain ⟨r9, h9, h⟩ := bnd h
          refine a_callVi K (s_X1_areJoined S r5 a2  r3.2 r9 h9) v_1 rfl rfl cw_X1_areJoined ml_X6_129 (by decide) rfl (rest := []) rfl (Nat.le_of_ble_eq_true rfl) (dq 36 rfl) (by decide) ?_
          refine a_if_eq K (tgt := 73) (dq 37 rfl) rfl (fun c10 => ?_) (fun c10 => ?_)
          · have h := ite_t c10 h
            refine a_iconst K (dq 40 rfl) (v := 0) rfl ?_
            refine a_istore K (dq 41 rfl) (Nat.le_of_ble_eq_true rfl) (ls' := [some (.ref (ρ 0 0)), some (.int a1), some (.int a2), some (.int r5), some (.int 0)]) rfl ?_
            refine a_iload K (dq 42 rfl) rfl ?_
            refine a_if_ne K (tgt := 105) (dq 43 rfl) rfl (fun c11 => ?_) (fun c11 => ?_)
            · exact absurd c11 (by decide)
            · refine a_aload_n K (dq 44 rfl) rfl rfl ?_
              refine a_get K (T := 0) (i := 0) (k := 5) (v := .ref (ρ 8 0)) v_0 rfl rfl in_X6 (Nat.le_of_ble_eq_true rfl) fl_X6_32 rfl (dq 45 rfl) ?_
              refine a_bipush K (dq 46 rfl) (v := 7) rfl ?_
              refine a_aload_n K (dq 47 rfl) rfl rfl ?_
              refine a_get K (T := 0) (i := 0) (k := 0) (v := .ref (ρ 1 0)) v_0 rfl rfl in_X6 (Nat.le_of_ble_eq_true rfl) fl_X6_10 rfl (dq 48 rfl) ?_
              refine a_iload_n K (dq 49 rfl) rfl rfl ?_
              obtain ⟨r12, h12, h⟩ := bnd h
              refine a_callVi K (s_X1_treeSizeOf S r5  r3.2 r12 h12) v_1 rfl rfl cw_X1_treeSizeOf ml_X6_153 (by decide) rfl (rest := [.int 7, .ref (ρ 8 0)]) rfl (Nat.le_of_ble_eq_true rfl) (dq 50 rfl) (by decide) ?_
              obtain ⟨r13, h13, h⟩ := bnd h
              refine a_callVi K (s_X3_keep S 7 r12  r3.2 r13 h13) v_8 rfl rfl cw_X3_keep ml_X6_388 (by decide) rfl (rest := []) rfl (Nat.le_of_ble_eq_true rfl) (dq 51 rfl) (by decide) ?_
              refine a_if_eq K (tgt := 105) (dq 52 rfl) rfl (fun c14 => ?_) (fun c14 => ?_)
              · have h := ite_t c14 h
                refine a_iconst K (dq 55 rfl) (v := 0) rfl ?_
                obtain rfl := Option.some.inj h
                exact a_iret K rfl rfl (dq 56 rfl) (Nat.le_of_ble_eq_true rfl) (Nat.le_of_ble_eq_true rfl) rfl rfl
              · have h := ite_f c14 h
                refine a_iconst K (dq 53 rfl) (v := 1) rfl ?_
                refine a_goto K (tgt := 106) (dq 54 rfl) rfl ?_
                obtain rfl := Option.some.inj h
                exact a_iret K rfl rfl (dq 56 rfl) (Nat.le_of_ble_eq_true rfl) (Nat.le_of_ble_eq_true rfl) rfl rfl
          · have h := ite_f c10 h
            refine a_iconst K (dq 38 rfl) (v := 1) rfl ?_
            refine a_goto K (tgt := 74) (dq 39 rfl) rfl ?_
            refine a_istore K (dq 41 rfl) (Nat.le_of_ble_eq_true rfl) (ls' := [some (.ref (ρ 0 0)), some (.int a1), some (.int a2), some (.int r5), some (.int 1)]) rfl ?_
            refine a_iload K (dq 42 rfl) rfl ?_
            refine a_if_ne K (tgt := 105) (dq 43 rfl) rfl (fun c15 => ?_) (fun c15 => ?_)
            · refine a_iconst K (dq 55 rfl) (v := 0) rfl ?_
              obtain rfl := Option.some.inj h
              exact a_iret K rfl rfl (dq 56 rfl) (Nat.le_of_ble_eq_true rfl) (Nat.le_of_ble_eq_true rfl) rfl rfl
            · exact absurd c15 (by decide)
      · have h := ite_t c6 h
        refine a_aload_n K (dq 23 rfl) rfl rfl ?_
        refine a_get K (T := 0) (i := 0) (k := 5) (v := .ref (ρ 8 0)) v_0 rfl rfl in_X6 (Nat.le_of_ble_eq_true rfl) fl_X6_32 rfl (dq 24 rfl) ?_
        refine a_bipush K (dq 25 rfl) (v := 10) rfl ?_
        refine a_iload_n K (dq 26 rfl) rfl rfl ?_
        obtain ⟨r16, h16, h⟩ := bnd h
        refine a_callVi K (s_X3_keep S 10 a2  r3.2 r16 h16) v_8 rfl rfl cw_X3_keep ml_X6_388 (by decide) rfl (rest := []) rfl (Nat.le_of_ble_eq_true rfl) (dq 27 rfl) (by decide) ?_
        obtain rfl := Option.some.inj h
        exact a_iret K rfl rfl (dq 28 rfl) (Nat.le_of_ble_eq_true rfl) (Nat.le_of_ble_eq_true rfl) rfl rfl
    · have h := ite_f c4 h
      refine a_iconst K (dq 13 rfl) (v := 1) rfl ?_
      obtain rfl := Option.some.inj h
      exact a_iret K rfl rfl (dq 14 rfl) (Nat.le_of_ble_eq_true rfl) (Nat.le_of_ble_eq_true rfl) rfl rfl
  · have h := ite_t c2 h
    refine a_aload_n K (dq 3 rfl) rfl rfl ?_
    refine a_get K (T := 0) (i := 0) (k := 5) (v := .ref (ρ 8 0)) v_0 rfl rfl in_X6 (Nat.le_of_ble_eq_true rfl) fl_X6_32 rfl (dq 4 rfl) ?_
    refine a_iconst K (dq 5 rfl) (v := 1) rfl ?_
    refine a_iconst K (dq 6 rfl) (v := 0) rfl ?_
    obtain ⟨r17, h17, h⟩ := bnd h
    refine a_callVi K (s_X3_keep S 1 0  σ r17 h17) v_8 rfl rfl cw_X3_keep ml_X6_388 (by decide) rfl (rest := []) rfl (Nat.le_of_ble_eq_true rfl) (dq 7 rfl) (by decide) ?_
    obtain rfl := Option.some.inj h
    exact a_iret K rfl rfl (dq 8 rfl) (Nat.le_of_ble_eq_true rfl) (Nat.le_of_ble_eq_true rfl) rfl rfl
def t_X6_rootAnew : List (Nat × Instr × Nat) := [(0, .aload_n 0, 1), (1, .getfield 10, 3), (4, .iload_n 1, 1), (5, .invokevirtual 92, 3), (8, .istore_n 2, 1), (9, .aload_n 0, 1), (10, .getfield 57, 3), (13, .aload_n 0, 1), (14, .getfield 10, 3), (17, .iload_n 1, 1), (18, .iload_n 2, 1), (19, .invokevirtual 145, 3), (22, .iconst 0, 1), (23, .istore_n 3, 1), (24, .iload_n 3, 1), (25, .aload_n 0, 1), (26, .getfield 57, 3), (29, .invokevirtual 126, 3), (32, .if_icmp .ge 50, 3), (35, .aload_n 0, 1), (36, .getfield 10, 3), (39, .aload_n 0, 1), (40, .getfield 57, 3), (43, .iload_n 3, 1), (44, .invokevirtual 123, 3), (47, .aload_n 0, 1), (48, .getfield 57, 3), (51, .iload_n 3, 1), (52, .iconst 1, 1), (53, .isub, 1), (54, .invokevirtual 123, 3), (57, .invokevirtual 393, 3), (60, .aload_n 0, 1), (61, .getfield 10, 3), (64, .aload_n 0, 1), (65, .getfield 57, 3), (68, .iload_n 3, 1), (69, .invokevirtual 123, 3), (72, .iconst (-1), 1), (73, .invokevirtual 396, 3), (76, .iinc 3 1, 3), (79, .goto (-55), 3), (82, .iload_n 2, 1), (83, .ireturn, 1)]
theorem dt_X6_rootAnew : tblOK cX6_rootAnew t_X6_rootAnew = true := by decide +kernel
def p_X6_rootAnew_L24  : Nat → Int32 → Int32 → Sg → Option ((Int32 × Sg))
  | 0, _, _, _ => none
  | n + 1, v2, v3, σ => (p_X5_farms  σ).bind fun r3 => if r3 ≤ v3 then (some (v2, σ)) else ((p_X5_farmAt v3 σ).bind fun r5 => (p_X5_farmAt (v3 - 1) σ).bind fun r6 => (p_X1_setParent r5 r6 σ).bind fun r7 => (p_X5_farmAt v3 r7).bind fun r8 => (p_X1_prefer r8 (-1) r7).bind fun r9 => p_X6_rootAnew_L24 n v2 (v3 + 1) r9)
def p_X6_rootAnew (a1 : Int32) (σ : Sg) : Option (Int32 × Sg) :=
  (p_X1_rootOf a1 σ).bind fun r1 => (p_X5_follow a1 r1 σ).bind fun r2 => p_X6_rootAnew_L24 400 r1 0 r2
set_option maxRecDepth 20000 in
set_option maxHeartbeats 1000000 in
theorem s_X6_rootAnew_L24 {l : Launch} {D : va_G} {ty : Nat → ClassId} {ρ : Nat → Nat → Nat} {N0 : Nat} (S : St l ty ρ N0)   : ∀ (n : Nat) (v2 : Int32) (v3 : Int32) (σ : Sg) (r : (Int32 × Sg)) (h : p_X6_rootAnew_L24  n v2 v3 σ = some r) {p : Program} {e : Env} {s : State} {m : MethodId} {args : Array Value} {below : List Frame} {meth : Method} {c : Code} (K : Cx p l s m args meth c cX6_rootAnew 4 RX6 (some .int) D ty ρ N0) (hX : ∀ x ∈ c.exceptionTable.toList, False), WA p l e (rmk 3 0 0) s m args below meth c D ty ρ N0 4 (vx_MQ below (oQ D ty ρ N0 (oI r.1) r.2) (oX D ty ρ N0 (oI r.1) r.2) args s 0 0 (fun q => N0 ≤ q)) 24 [some (.ref (ρ 0 0)), none, some (.int v2), some (.int v3)] [] σ 0 0 := by
  intro n
  induction n with
  | zero =>
    intro v2 v3 σ r h
    simp only [p_X6_rootAnew_L24] at h
    cases h
  | succ n ih =>
    intro v2 v3 σ r h p e s m args below meth c K hX
    have dq := @tat _ _ dt_X6_rootAnew
    rw [p_X6_rootAnew_L24] at h
    refine a_iload_n K (dq 14 rfl) rfl rfl ?_
    refine a_aload_n K (dq 15 rfl) rfl rfl ?_
    refine a_get K (T := 0) (i := 0) (k := 9) (v := .ref (ρ 14 0)) v_0 rfl rfl in_X6 (Nat.le_of_ble_eq_true rfl) fl_X6_57 rfl (dq 16 rfl) ?_
    obtain ⟨r3, h3, h⟩ := bnd h
    refine a_callVi K (s_X5_farms S   σ r3 h3) v_14 rfl rfl cw_X5_farms ml_X6_126 (by decide) rfl (rest := [.int v3]) rfl (Nat.le_of_ble_eq_true rfl) (dq 17 rfl) (by decide) ?_
    refine a_icmp_ge K (tgt := 82) (dq 18 rfl) rfl (fun c4 => ?_) (fun c4 => ?_)
    · have h := ite_t c4 h
      refine a_iload_n K (dq 42 rfl) rfl rfl ?_
      obtain rfl := Option.some.inj h
      exact a_iret K rfl rfl (dq 43 rfl) (Nat.le_of_ble_eq_true rfl) (Nat.le_of_ble_eq_true rfl) rfl rfl
    · have h := ite_f c4 h
      refine a_aload_n K (dq 19 rfl) rfl rfl ?_
      refine a_get K (T := 0) (i := 0) (k := 0) (v := .ref (ρ 1 0)) v_0 rfl rfl in_X6 (Nat.le_of_ble_eq_true rfl) fl_X6_10 rfl (dq 20 rfl) ?_
      refine a_aload_n K (dq 21 rfl) rfl rfl ?_
      refine a_get K (T := 0) (i := 0) (k := 9) (v := .ref (ρ 14 0)) v_0 rfl rfl in_X6 (Nat.le_of_ble_eq_true rfl) fl_X6_57 rfl (dq 22 rfl) ?_
      refine a_iload_n K (dq 23 rfl) rfl rfl ?_
      obtain ⟨r5, h5, h⟩ := bnd h
      refine a_callVi K (s_X5_farmAt S v3  σ r5 h5) v_14 rfl rfl cw_X5_farmAt ml_X6_123 (by decide) rfl (rest := [.ref (ρ 1 0)]) rfl (Nat.le_of_ble_eq_true rfl) (dq 24 rfl) (by decide) ?_
      refine a_aload_n K (dq 25 rfl) rfl rfl ?_
      refine a_get K (T := 0) (i := 0) (k := 9) (v := .ref (ρ 14 0)) v_0 rfl rfl in_X6 (Nat.le_of_ble_eq_true rfl) fl_X6_57 rfl (dq 26 rfl) ?_
      refine a_iload_n K (dq 27 rfl) rfl rfl ?_
      refine a_iconst K (dq 28 rfl) (v := 1) rfl ?_
      refine a_isub K (dq 29 rfl) ?_
      obtain ⟨r6, h6, h⟩ := bnd h
      refine a_callVi K (s_X5_farmAt S (v3 - 1)  σ r6 h6) v_14 rfl rfl cw_X5_farmAt ml_X6_123 (by decide) rfl (rest := [.int r5, .ref (ρ 1 0)]) rfl (Nat.le_of_ble_eq_true rfl) (dq 30 rfl) (by decide) ?_
      obtain ⟨r7, h7, h⟩ := bnd h
      refine a_callVv K (s_X1_setParent S r5 r6  σ r7 h7) v_1 rfl rfl cw_X1_setParent ml_X6_393 (by decide) rfl (rest := []) rfl (Nat.le_of_ble_eq_true rfl) (dq 31 rfl) (by decide) ?_
      refine a_aload_n K (dq 32 rfl) rfl rfl ?_
      refine a_get K (T := 0) (i := 0) (k := 0) (v := .ref (ρ 1 0)) v_0 rfl rfl in_X6 (Nat.le_of_ble_eq_true rfl) fl_X6_10 rfl (dq 33 rfl) ?_
      refine a_aload_n K (dq 34 rfl) rfl rfl ?_
      refine a_get K (T := 0) (i := 0) (k := 9) (v := .ref (ρ 14 0)) v_0 rfl rfl in_X6 (Nat.le_of_ble_eq_true rfl) fl_X6_57 rfl (dq 35 rfl) ?_
      refine a_iload_n K (dq 36 rfl) rfl rfl ?_
      obtain ⟨r8, h8, h⟩ := bnd h
      refine a_callVi K (s_X5_farmAt S v3  r7 r8 h8) v_14 rfl rfl cw_X5_farmAt ml_X6_123 (by decide) rfl (rest := [.ref (ρ 1 0)]) rfl (Nat.le_of_ble_eq_true rfl) (dq 37 rfl) (by decide) ?_
      refine a_iconst K (dq 38 rfl) (v := (-1)) rfl ?_
      obtain ⟨r9, h9, h⟩ := bnd h
      refine a_callVv K (s_X1_prefer S r8 (-1)  r7 r9 h9) v_1 rfl rfl cw_X1_prefer ml_X6_396 (by decide) rfl (rest := []) rfl (Nat.le_of_ble_eq_true rfl) (dq 39 rfl) (by decide) ?_
      refine a_iinc K (dq 40 rfl) rfl (v := (v3 + 1)) rfl (Nat.le_of_ble_eq_true rfl) (ls' := [some (.ref (ρ 0 0)), none, some (.int v2), some (.int (v3 + 1))]) rfl ?_
      refine a_goto K (tgt := 24) (dq 41 rfl) rfl ?_
      exact ih v2 (v3 + 1) r9 r h K hX
set_option maxRecDepth 20000 in
set_option maxHeartbeats 1000000 in
theorem s_X6_rootAnew {l : Launch} {D : va_G} {ty : Nat → ClassId} {ρ : Nat → Nat → Nat} {N0 : Nat} (S : St l ty ρ N0) (a1 : Int32)  (σ : Sg) (r : (Int32 × Sg)) (h : p_X6_rootAnew a1 σ = some r) : AMet l D ty ρ N0 yX6_rootAnew (Cond.code yX6_rootAnew cX6_rootAnew 4 (some .int) :: GW) (rmk 3 0 0) [.ref (ρ 0 0), .int a1] σ (oI r.1) r.2 := by
  refine am_enter S (by decide) rfl rfl (Nat.le_of_ble_eq_true rfl) ?_
  intro p e s m args below meth c K hX
  have dq := @tat _ _ dt_X6_rootAnew
  unfold p_X6_rootAnew at h
  show WA p l e _ s m args below meth c D ty ρ N0 4 _ 0 [some (.ref (ρ 0 0)), some (.int a1), none, none] [] σ 0 0
  refine a_aload_n K (dq 0 rfl) rfl rfl ?_
  refine a_get K (T := 0) (i := 0) (k := 0) (v := .ref (ρ 1 0)) v_0 rfl rfl in_X6 (Nat.le_of_ble_eq_true rfl) fl_X6_10 rfl (dq 1 rfl) ?_
  refine a_iload_n K (dq 2 rfl) rfl rfl ?_
  obtain ⟨r1, h1, h⟩ := bnd h
  refine a_callVi K (s_X1_rootOf S a1  σ r1 h1) v_1 rfl rfl cw_X1_rootOf ml_X6_92 (by decide) rfl (rest := []) rfl (Nat.le_of_ble_eq_true rfl) (dq 3 rfl) (by decide) ?_
  refine a_istore_n K (dq 4 rfl) rfl (Nat.le_of_ble_eq_true rfl) (ls' := [some (.ref (ρ 0 0)), some (.int a1), some (.int r1), none]) rfl ?_
  refine a_aload_n K (dq 5 rfl) rfl rfl ?_
  refine a_get K (T := 0) (i := 0) (k := 9) (v := .ref (ρ 14 0)) v_0 rfl rfl in_X6 (Nat.le_of_ble_eq_true rfl) fl_X6_57 rfl (dq 6 rfl) ?_
  refine a_aload_n K (dq 7 rfl) rfl rfl ?_
  refine a_get K (T := 0) (i := 0) (k := 0) (v := .ref (ρ 1 0)) v_0 rfl rfl in_X6 (Nat.le_of_ble_eq_true rfl) fl_X6_10 rfl (dq 8 rfl) ?_
  refine a_iload_n K (dq 9 rfl) rfl rfl ?_
  refine a_iload_n K (dq 10 rfl) rfl rfl ?_
  obtain ⟨r2, h2, h⟩ := bnd h
  refine a_callVv K (s_X5_follow S a1 r1  σ r2 h2) v_14 rfl rfl cw_X5_follow ml_X6_145 (by decide) rfl (rest := []) rfl (Nat.le_of_ble_eq_true rfl) (dq 11 rfl) (by decide) ?_
  refine a_iconst K (dq 12 rfl) (v := 0) rfl ?_
  refine a_istore_n K (dq 13 rfl) rfl (Nat.le_of_ble_eq_true rfl) (ls' := [some (.ref (ρ 0 0)), some (.int a1), some (.int r1), some (.int 0)]) rfl ?_
  refine a_le2 (ls' := [some (.ref (ρ 0 0)), none, some (.int r1), some (.int 0)]) ⟨rfl, rfl, rfl, trivial⟩ ?_
  exact s_X6_rootAnew_L24 S    400 r1 0 r2 r h K hX
def t_X6_giveTrackUp : List (Nat × Instr × Nat) := [(0, .aload_n 0, 1), (1, .getfield 10, 3), (4, .iload_n 1, 1), (5, .iload_n 2, 1), (6, .invokevirtual 161, 3), (9, .istore_n 3, 1), (10, .aload_n 0, 1), (11, .getfield 10, 3), (14, .iload_n 3, 1), (15, .invokevirtual 77, 3), (18, .istore 4, 2), (20, .aload_n 0, 1), (21, .getfield 10, 3), (24, .iload 4, 2), (26, .invokevirtual 80, 3), (29, .iload_n 3, 1), (30, .if_icmp .ne 13, 3), (33, .aload_n 0, 1), (34, .getfield 10, 3), (37, .iload 4, 2), (39, .iconst (-1), 1), (40, .invokevirtual 396, 3), (43, .aload_n 0, 1), (44, .getfield 10, 3), (47, .iload_n 3, 1), (48, .iconst (-1), 1), (49, .invokevirtual 393, 3), (52, .aload_n 0, 1), (53, .getfield 10, 3), (56, .iload_n 3, 1), (57, .invokevirtual 153, 3), (60, .ireturn, 1)]
theorem dt_X6_giveTrackUp : tblOK cX6_giveTrackUp t_X6_giveTrackUp = true := by decide +kernel
def p_X6_giveTrackUp (a1 : Int32) (a2 : Int32) (σ : Sg) : Option (Int32 × Sg) :=
  (p_X1_childOfTrack a1 a2 σ).bind fun r1 => (p_X1_parentOf r1 σ).bind fun r2 => (p_X1_preferredOf r2 σ).bind fun r3 => if r3 = r1 then ((p_X1_prefer r2 (-1) σ).bind fun r7 => (p_X1_setParent r1 (-1) r7).bind fun r8 => (p_X1_treeSizeOf r1 r8).bind fun r9 => some (r9, r8)) else ((p_X1_setParent r1 (-1) σ).bind fun r5 => (p_X1_treeSizeOf r1 r5).bind fun r6 => some (r6, r5))
set_option maxRecDepth 20000 in
set_option maxHeartbeats 1000000 in
theorem s_X6_giveTrackUp {l : Launch} {D : va_G} {ty : Nat → ClassId} {ρ : Nat → Nat → Nat} {N0 : Nat} (S : St l ty ρ N0) (a1 : Int32) (a2 : Int32)  (σ : Sg) (r : (Int32 × Sg)) (h : p_X6_giveTrackUp a1 a2 σ = some r) : AMet l D ty ρ N0 yX6_giveTrackUp (Cond.code yX6_giveTrackUp cX6_giveTrackUp 5 (some .int) :: GW) (rmk 4 0 0) [.ref (ρ 0 0), .int a1, .int a2] σ (oI r.1) r.2 := by
  refine am_enter S (by decide) rfl rfl (Nat.le_of_ble_eq_true rfl) ?_
  intro p e s m args below meth c K hX
  have dq := @tat _ _ dt_X6_giveTrackUp
  unfold p_X6_giveTrackUp at h
  show WA p l e _ s m args below meth c D ty ρ N0 5 _ 0 [some (.ref (ρ 0 0)), some (.int a1), some (.int a2), none, none] [] σ 0 0
  refine a_aload_n K (dq 0 rfl) rfl rfl ?_
  refine a_get K (T := 0) (i := 0) (k := 0) (v := .ref (ρ 1 0)) v_0 rfl rfl in_X6 (Nat.le_of_ble_eq_true rfl) fl_X6_10 rfl (dq 1 rfl) ?_
  refine a_iload_n K (dq 2 rfl) rfl rfl ?_
  refine a_iload_n K (dq 3 rfl) rfl rfl ?_
  obtain ⟨r1, h1, h⟩ := bnd h
  refine a_callVi K (s_X1_childOfTrack S a1 a2  σ r1 h1) v_1 rfl rfl cw_X1_childOfTrack ml_X6_161 (by decide) rfl (rest := []) rfl (Nat.le_of_ble_eq_true rfl) (dq 4 rfl) (by decide) ?_
  refine a_istore_n K (dq 5 rfl) rfl (Nat.le_of_ble_eq_true rfl) (ls' := [some (.ref (ρ 0 0)), some (.int a1), some (.int a2), some (.int r1), none]) rfl ?_
  refine a_aload_n K (dq 6 rfl) rfl rfl ?_
  refine a_get K (T := 0) (i := 0) (k := 0) (v := .ref (ρ 1 0)) v_0 rfl rfl in_X6 (Nat.le_of_ble_eq_true rfl) fl_X6_10 rfl (dq 7 rfl) ?_
  refine a_iload_n K (dq 8 rfl) rfl rfl ?_
  obtain ⟨r2, h2, h⟩ := bnd h
  refine a_callVi K (s_X1_parentOf S r1  σ r2 h2) v_1 rfl rfl cw_X1_parentOf ml_X6_77 (by decide) rfl (rest := []) rfl (Nat.le_of_ble_eq_true rfl) (dq 9 rfl) (by decide) ?_
  refine a_istore K (dq 10 rfl) (Nat.le_of_ble_eq_true rfl) (ls' := [some (.ref (ρ 0 0)), some (.int a1), some (.int a2), some (.int r1), some (.int r2)]) rfl ?_
  refine a_aload_n K (dq 11 rfl) rfl rfl ?_
  refine a_get K (T := 0) (i := 0) (k := 0) (v := .ref (ρ 1 0)) v_0 rfl rfl in_X6 (Nat.le_of_ble_eq_true rfl) fl_X6_10 rfl (dq 12 rfl) ?_
  refine a_iload K (dq 13 rfl) rfl ?_
  obtain ⟨r3, h3, h⟩ := bnd h
  refine a_callVi K (s_X1_preferredOf S r2  σ r3 h3) v_1 rfl rfl cw_X1_preferredOf ml_X6_80 (by decide) rfl (rest := []) rfl (Nat.le_of_ble_eq_true rfl) (dq 14 rfl) (by decide) ?_
  refine a_iload_n K (dq 15 rfl) rfl rfl ?_
  refine a_icmp_ne K (tgt := 43) (dq 16 rfl) rfl (fun c4 => ?_) (fun c4 => ?_)
  · have h := ite_f c4 h
    refine a_aload_n K (dq 22 rfl) rfl rfl ?_
    refine a_get K (T := 0) (i := 0) (k := 0) (v := .ref (ρ 1 0)) v_0 rfl rfl in_X6 (Nat.le_of_ble_eq_true rfl) fl_X6_10 rfl (dq 23 rfl) ?_
    refine a_iload_n K (dq 24 rfl) rfl rfl ?_
    refine a_iconst K (dq 25 rfl) (v := (-1)) rfl ?_
    obtain ⟨r5, h5, h⟩ := bnd h
    refine a_callVv K (s_X1_setParent S r1 (-1)  σ r5 h5) v_1 rfl rfl cw_X1_setParent ml_X6_393 (by decide) rfl (rest := []) rfl (Nat.le_of_ble_eq_true rfl) (dq 26 rfl) (by decide) ?_
    refine a_aload_n K (dq 27 rfl) rfl rfl ?_
    refine a_get K (T := 0) (i := 0) (k := 0) (v := .ref (ρ 1 0)) v_0 rfl rfl in_X6 (Nat.le_of_ble_eq_true rfl) fl_X6_10 rfl (dq 28 rfl) ?_
    refine a_iload_n K (dq 29 rfl) rfl rfl ?_
    obtain ⟨r6, h6, h⟩ := bnd h
    refine a_callVi K (s_X1_treeSizeOf S r1  r5 r6 h6) v_1 rfl rfl cw_X1_treeSizeOf ml_X6_153 (by decide) rfl (rest := []) rfl (Nat.le_of_ble_eq_true rfl) (dq 30 rfl) (by decide) ?_
    obtain rfl := Option.some.inj h
    exact a_iret K rfl rfl (dq 31 rfl) (Nat.le_of_ble_eq_true rfl) (Nat.le_of_ble_eq_true rfl) rfl rfl
  · have h := ite_t c4 h
    refine a_aload_n K (dq 17 rfl) rfl rfl ?_
    refine a_get K (T := 0) (i := 0) (k := 0) (v := .ref (ρ 1 0)) v_0 rfl rfl in_X6 (Nat.le_of_ble_eq_true rfl) fl_X6_10 rfl (dq 18 rfl) ?_
    refine a_iload K (dq 19 rfl) rfl ?_
    refine a_iconst K (dq 20 rfl) (v := (-1)) rfl ?_
    obtain ⟨r7, h7, h⟩ := bnd h
    refine a_callVv K (s_X1_prefer S r2 (-1)  σ r7 h7) v_1 rfl rfl cw_X1_prefer ml_X6_396 (by decide) rfl (rest := []) rfl (Nat.le_of_ble_eq_true rfl) (dq 21 rfl) (by decide) ?_
    refine a_aload_n K (dq 22 rfl) rfl rfl ?_
    refine a_get K (T := 0) (i := 0) (k := 0) (v := .ref (ρ 1 0)) v_0 rfl rfl in_X6 (Nat.le_of_ble_eq_true rfl) fl_X6_10 rfl (dq 23 rfl) ?_
    refine a_iload_n K (dq 24 rfl) rfl rfl ?_
    refine a_iconst K (dq 25 rfl) (v := (-1)) rfl ?_
    obtain ⟨r8, h8, h⟩ := bnd h
    refine a_callVv K (s_X1_setParent S r1 (-1)  r7 r8 h8) v_1 rfl rfl cw_X1_setParent ml_X6_393 (by decide) rfl (rest := []) rfl (Nat.le_of_ble_eq_true rfl) (dq 26 rfl) (by decide) ?_
    refine a_aload_n K (dq 27 rfl) rfl rfl ?_
    refine a_get K (T := 0) (i := 0) (k := 0) (v := .ref (ρ 1 0)) v_0 rfl rfl in_X6 (Nat.le_of_ble_eq_true rfl) fl_X6_10 rfl (dq 28 rfl) ?_
    refine a_iload_n K (dq 29 rfl) rfl rfl ?_
    obtain ⟨r9, h9, h⟩ := bnd h
    refine a_callVi K (s_X1_treeSizeOf S r1  r8 r9 h9) v_1 rfl rfl cw_X1_treeSizeOf ml_X6_153 (by decide) rfl (rest := []) rfl (Nat.le_of_ble_eq_true rfl) (dq 30 rfl) (by decide) ?_
    obtain rfl := Option.some.inj h
    exact a_iret K rfl rfl (dq 31 rfl) (Nat.le_of_ble_eq_true rfl) (Nat.le_of_ble_eq_true rfl) rfl rfl
def t_X6_exposeFarm : List (Nat × Instr × Nat) := [(0, .aload_n 0, 1), (1, .getfield 57, 3), (4, .aload_n 0, 1), (5, .getfield 10, 3), (8, .aload_n 0, 1), (9, .getfield 10, 3), (12, .iload_n 1, 1), (13, .invokevirtual 92, 3), (16, .iload_n 1, 1), (17, .invokevirtual 145, 3), (20, .aload_n 0, 1), (21, .getfield 57, 3), (24, .aload_n 0, 1), (25, .getfield 10, 3), (28, .invokevirtual 149, 3), (31, .istore_n 2, 1), (32, .iconst 0, 1), (33, .istore_n 3, 1), (34, .iload_n 3, 1), (35, .aload_n 0, 1), (36, .getfield 57, 3), (39, .invokevirtual 126, 3), (42, .if_icmp .ge 34, 3), (45, .aload_n 0, 1), (46, .getfield 10, 3), (49, .aload_n 0, 1), (50, .getfield 57, 3), (53, .iload_n 3, 1), (54, .invokevirtual 123, 3), (57, .aload_n 0, 1), (58, .getfield 57, 3), (61, .iload_n 3, 1), (62, .iconst 1, 1), (63, .iadd, 1), (64, .invokevirtual 123, 3), (67, .invokevirtual 396, 3), (70, .iinc 3 1, 3), (73, .goto (-39), 3), (76, .aload_n 0, 1), (77, .getfield 10, 3), (80, .iload_n 2, 1), (81, .invokevirtual 399, 3), (84, .iload_n 2, 1), (85, .ireturn, 1)]
theorem dt_X6_exposeFarm : tblOK cX6_exposeFarm t_X6_exposeFarm = true := by decide +kernel
def p_X6_exposeFarm_L34  : Nat → Int32 → Int32 → Sg → Option ((Int32 × Sg))
  | 0, _, _, _ => none
  | n + 1, v2, v3, σ => (p_X5_farms  σ).bind fun r4 => if r4 ≤ v3 then ((p_X1_countExposing v2 σ).bind fun r6 => some (v2, r6)) else ((p_X5_farmAt v3 σ).bind fun r7 => (p_X5_farmAt (v3 + 1) σ).bind fun r8 => (p_X1_prefer r7 r8 σ).bind fun r9 => p_X6_exposeFarm_L34 n v2 (v3 + 1) r9)
def p_X6_exposeFarm (a1 : Int32) (σ : Sg) : Option (Int32 × Sg) :=
  (p_X1_rootOf a1 σ).bind fun r1 => (p_X5_follow r1 a1 σ).bind fun r2 => (p_X5_preferencesToChange  r2).bind fun r3 => p_X6_exposeFarm_L34 400 r3 0 r2
set_option maxRecDepth 20000 in
set_option maxHeartbeats 1000000 in
theorem s_X6_exposeFarm_L34 {l : Launch} {D : va_G} {ty : Nat → ClassId} {ρ : Nat → Nat → Nat} {N0 : Nat} (S : St l ty ρ N0)   : ∀ (n : Nat) (v2 : Int32) (v3 : Int32) (σ : Sg) (r : (Int32 × Sg)) (h : p_X6_exposeFarm_L34  n v2 v3 σ = some r) {p : Program} {e : Env} {s : State} {m : MethodId} {args : Array Value} {below : List Frame} {meth : Method} {c : Code} (K : Cx p l s m args meth c cX6_exposeFarm 4 RX6 (some .int) D ty ρ N0) (hX : ∀ x ∈ c.exceptionTable.toList, False), WA p l e (rmk 3 0 0) s m args below meth c D ty ρ N0 4 (vx_MQ below (oQ D ty ρ N0 (oI r.1) r.2) (oX D ty ρ N0 (oI r.1) r.2) args s 0 0 (fun q => N0 ≤ q)) 34 [some (.ref (ρ 0 0)), none, some (.int v2), some (.int v3)] [] σ 0 0 := by
  intro n
  induction n with
  | zero =>
    intro v2 v3 σ r h
    simp only [p_X6_exposeFarm_L34] at h
    cases h
  | succ n ih =>
    intro v2 v3 σ r h p e s m args below meth c K hX
    have dq := @tat _ _ dt_X6_exposeFarm
    rw [p_X6_exposeFarm_L34] at h
    refine a_iload_n K (dq 18 rfl) rfl rfl ?_
    refine a_aload_n K (dq 19 rfl) rfl rfl ?_
    refine a_get K (T := 0) (i := 0) (k := 9) (v := .ref (ρ 14 0)) v_0 rfl rfl in_X6 (Nat.le_of_ble_eq_true rfl) fl_X6_57 rfl (dq 20 rfl) ?_
    obtain ⟨r4, h4, h⟩ := bnd h
    refine a_callVi K (s_X5_farms S   σ r4 h4) v_14 rfl rfl cw_X5_farms ml_X6_126 (by decide) rfl (rest := [.int v3]) rfl (Nat.le_of_ble_eq_true rfl) (dq 21 rfl) (by decide) ?_
    refine a_icmp_ge K (tgt := 76) (dq 22 rfl) rfl (fun c5 => ?_) (fun c5 => ?_)
    · have h := ite_t c5 h
      refine a_aload_n K (dq 38 rfl) rfl rfl ?_
      refine a_get K (T := 0) (i := 0) (k := 0) (v := .ref (ρ 1 0)) v_0 rfl rfl in_X6 (Nat.le_of_ble_eq_true rfl) fl_X6_10 rfl (dq 39 rfl) ?_
      refine a_iload_n K (dq 40 rfl) rfl rfl ?_
      obtain ⟨r6, h6, h⟩ := bnd h
      refine a_callVv K (s_X1_countExposing S v2  σ r6 h6) v_1 rfl rfl cw_X1_countExposing ml_X6_399 (by decide) rfl (rest := []) rfl (Nat.le_of_ble_eq_true rfl) (dq 41 rfl) (by decide) ?_
      refine a_iload_n K (dq 42 rfl) rfl rfl ?_
      obtain rfl := Option.some.inj h
      exact a_iret K rfl rfl (dq 43 rfl) (Nat.le_of_ble_eq_true rfl) (Nat.le_of_ble_eq_true rfl) rfl rfl
    · have h := ite_f c5 h
      refine a_aload_n K (dq 23 rfl) rfl rfl ?_
      refine a_get K (T := 0) (i := 0) (k := 0) (v := .ref (ρ 1 0)) v_0 rfl rfl in_X6 (Nat.le_of_ble_eq_true rfl) fl_X6_10 rfl (dq 24 rfl) ?_
      refine a_aload_n K (dq 25 rfl) rfl rfl ?_
      refine a_get K (T := 0) (i := 0) (k := 9) (v := .ref (ρ 14 0)) v_0 rfl rfl in_X6 (Nat.le_of_ble_eq_true rfl) fl_X6_57 rfl (dq 26 rfl) ?_
      refine a_iload_n K (dq 27 rfl) rfl rfl ?_
      obtain ⟨r7, h7, h⟩ := bnd h
      refine a_callVi K (s_X5_farmAt S v3  σ r7 h7) v_14 rfl rfl cw_X5_farmAt ml_X6_123 (by decide) rfl (rest := [.ref (ρ 1 0)]) rfl (Nat.le_of_ble_eq_true rfl) (dq 28 rfl) (by decide) ?_
      refine a_aload_n K (dq 29 rfl) rfl rfl ?_
      refine a_get K (T := 0) (i := 0) (k := 9) (v := .ref (ρ 14 0)) v_0 rfl rfl in_X6 (Nat.le_of_ble_eq_true rfl) fl_X6_57 rfl (dq 30 rfl) ?_
      refine a_iload_n K (dq 31 rfl) rfl rfl ?_
      refine a_iconst K (dq 32 rfl) (v := 1) rfl ?_
      refine a_iadd K (dq 33 rfl) ?_
      obtain ⟨r8, h8, h⟩ := bnd h
      refine a_callVi K (s_X5_farmAt S (v3 + 1)  σ r8 h8) v_14 rfl rfl cw_X5_farmAt ml_X6_123 (by decide) rfl (rest := [.int r7, .ref (ρ 1 0)]) rfl (Nat.le_of_ble_eq_true rfl) (dq 34 rfl) (by decide) ?_
      obtain ⟨r9, h9, h⟩ := bnd h
      refine a_callVv K (s_X1_prefer S r7 r8  σ r9 h9) v_1 rfl rfl cw_X1_prefer ml_X6_396 (by decide) rfl (rest := []) rfl (Nat.le_of_ble_eq_true rfl) (dq 35 rfl) (by decide) ?_
      refine a_iinc K (dq 36 rfl) rfl (v := (v3 + 1)) rfl (Nat.le_of_ble_eq_true rfl) (ls' := [some (.ref (ρ 0 0)), none, some (.int v2), some (.int (v3 + 1))]) rfl ?_
      refine a_goto K (tgt := 34) (dq 37 rfl) rfl ?_
      exact ih v2 (v3 + 1) r9 r h K hX
set_option maxRecDepth 20000 in
set_option maxHeartbeats 1000000 in
theorem s_X6_exposeFarm {l : Launch} {D : va_G} {ty : Nat → ClassId} {ρ : Nat → Nat → Nat} {N0 : Nat} (S : St l ty ρ N0) (a1 : Int32)  (σ : Sg) (r : (Int32 × Sg)) (h : p_X6_exposeFarm a1 σ = some r) : AMet l D ty ρ N0 yX6_exposeFarm (Cond.code yX6_exposeFarm cX6_exposeFarm 4 (some .int) :: GW) (rmk 3 0 0) [.ref (ρ 0 0), .int a1] σ (oI r.1) r.2 := by
  refine am_enter S (by decide) rfl rfl (Nat.le_of_ble_eq_true rfl) ?_
  intro p e s m args below meth c K hX
  have dq := @tat _ _ dt_X6_exposeFarm
  unfold p_X6_exposeFarm at h
  show WA p l e _ s m args below meth c D ty ρ N0 4 _ 0 [some (.ref (ρ 0 0)), some (.int a1), none, none] [] σ 0 0
  refine a_aload_n K (dq 0 rfl) rfl rfl ?_
  refine a_get K (T := 0) (i := 0) (k := 9) (v := .ref (ρ 14 0)) v_0 rfl rfl in_X6 (Nat.le_of_ble_eq_true rfl) fl_X6_57 rfl (dq 1 rfl) ?_
  refine a_aload_n K (dq 2 rfl) rfl rfl ?_
  refine a_get K (T := 0) (i := 0) (k := 0) (v := .ref (ρ 1 0)) v_0 rfl rfl in_X6 (Nat.le_of_ble_eq_true rfl) fl_X6_10 rfl (dq 3 rfl) ?_
  refine a_aload_n K (dq 4 rfl) rfl rfl ?_
  refine a_get K (T := 0) (i := 0) (k := 0) (v := .ref (ρ 1 0)) v_0 rfl rfl in_X6 (Nat.le_of_ble_eq_true rfl) fl_X6_10 rfl (dq 5 rfl) ?_
  refine a_iload_n K (dq 6 rfl) rfl rfl ?_
  obtain ⟨r1, h1, h⟩ := bnd h
  refine a_callVi K (s_X1_rootOf S a1  σ r1 h1) v_1 rfl rfl cw_X1_rootOf ml_X6_92 (by decide) rfl (rest := [.ref (ρ 1 0), .ref (ρ 14 0)]) rfl (Nat.le_of_ble_eq_true rfl) (dq 7 rfl) (by decide) ?_
  refine a_iload_n K (dq 8 rfl) rfl rfl ?_
  obtain ⟨r2, h2, h⟩ := bnd h
  refine a_callVv K (s_X5_follow S r1 a1  σ r2 h2) v_14 rfl rfl cw_X5_follow ml_X6_145 (by decide) rfl (rest := []) rfl (Nat.le_of_ble_eq_true rfl) (dq 9 rfl) (by decide) ?_
  refine a_aload_n K (dq 10 rfl) rfl rfl ?_
  refine a_get K (T := 0) (i := 0) (k := 9) (v := .ref (ρ 14 0)) v_0 rfl rfl in_X6 (Nat.le_of_ble_eq_true rfl) fl_X6_57 rfl (dq 11 rfl) ?_
  refine a_aload_n K (dq 12 rfl) rfl rfl ?_
  refine a_get K (T := 0) (i := 0) (k := 0) (v := .ref (ρ 1 0)) v_0 rfl rfl in_X6 (Nat.le_of_ble_eq_true rfl) fl_X6_10 rfl (dq 13 rfl) ?_
  obtain ⟨r3, h3, h⟩ := bnd h
  refine a_callVi K (s_X5_preferencesToChange S   r2 r3 h3) v_14 rfl rfl cw_X5_preferencesToChange ml_X6_149 (by decide) rfl (rest := []) rfl (Nat.le_of_ble_eq_true rfl) (dq 14 rfl) (by decide) ?_
  refine a_istore_n K (dq 15 rfl) rfl (Nat.le_of_ble_eq_true rfl) (ls' := [some (.ref (ρ 0 0)), some (.int a1), some (.int r3), none]) rfl ?_
  refine a_iconst K (dq 16 rfl) (v := 0) rfl ?_
  refine a_istore_n K (dq 17 rfl) rfl (Nat.le_of_ble_eq_true rfl) (ls' := [some (.ref (ρ 0 0)), some (.int a1), some (.int r3), some (.int 0)]) rfl ?_
  refine a_le2 (ls' := [some (.ref (ρ 0 0)), none, some (.int r3), some (.int 0)]) ⟨rfl, rfl, rfl, trivial⟩ ?_
  exact s_X6_exposeFarm_L34 S    400 r3 0 r2 r h K hX
def t_X6_chargeWay : List (Nat × Instr × Nat) := [(0, .aload_n 0, 1), (1, .getfield 57, 3), (4, .aload_n 0, 1), (5, .getfield 10, 3), (8, .iload_n 1, 1), (9, .iload_n 2, 1), (10, .invokevirtual 145, 3), (13, .iconst 0, 1), (14, .istore 4, 2), (16, .iload 4, 2), (18, .aload_n 0, 1), (19, .getfield 57, 3), (22, .invokevirtual 126, 3), (25, .if_icmp .ge 26, 3), (28, .aload_n 0, 1), (29, .getfield 10, 3), (32, .aload_n 0, 1), (33, .getfield 57, 3), (36, .iload 4, 2), (38, .invokevirtual 123, 3), (41, .iload_n 3, 1), (42, .invokevirtual 402, 3), (45, .iinc 4 1, 3), (48, .goto (-32), 3), (51, .aload_n 0, 1), (52, .getfield 57, 3), (55, .aload_n 0, 1), (56, .getfield 10, 3), (59, .invokevirtual 119, 3), (62, .ireturn, 1)]
theorem dt_X6_chargeWay : tblOK cX6_chargeWay t_X6_chargeWay = true := by decide +kernel
def p_X6_chargeWay_L16  : Nat → Int32 → Int32 → Sg → Option ((Int32 × Sg))
  | 0, _, _, _ => none
  | n + 1, v3, v4, σ => (p_X5_farms  σ).bind fun r2 => if r2 ≤ v4 then ((p_X5_tollsIn  σ).bind fun r4 => some (r4, σ)) else ((p_X5_farmAt v4 σ).bind fun r5 => (p_X1_chargeMore r5 v3 σ).bind fun r6 => p_X6_chargeWay_L16 n v3 (v4 + 1) r6)
def p_X6_chargeWay (a1 : Int32) (a2 : Int32) (a3 : Int32) (σ : Sg) : Option (Int32 × Sg) :=
  (p_X5_follow a1 a2 σ).bind fun r1 => p_X6_chargeWay_L16 400 a3 0 r1
set_option maxRecDepth 20000 in
set_option maxHeartbeats 1000000 in
theorem s_X6_chargeWay_L16 {l : Launch} {D : va_G} {ty : Nat → ClassId} {ρ : Nat → Nat → Nat} {N0 : Nat} (S : St l ty ρ N0)   : ∀ (n : Nat) (v3 : Int32) (v4 : Int32) (σ : Sg) (r : (Int32 × Sg)) (h : p_X6_chargeWay_L16  n v3 v4 σ = some r) {p : Program} {e : Env} {s : State} {m : MethodId} {args : Array Value} {below : List Frame} {meth : Method} {c : Code} (K : Cx p l s m args meth c cX6_chargeWay 5 RX6 (some .int) D ty ρ N0) (hX : ∀ x ∈ c.exceptionTable.toList, False), WA p l e (rmk 3 0 0) s m args below meth c D ty ρ N0 5 (vx_MQ below (oQ D ty ρ N0 (oI r.1) r.2) (oX D ty ρ N0 (oI r.1) r.2) args s 0 0 (fun q => N0 ≤ q)) 16 [some (.ref (ρ 0 0)), none, none, some (.int v3), some (.int v4)] [] σ 0 0 := by
  intro n
  induction n with
  | zero =>
    intro v3 v4 σ r h
    simp only [p_X6_chargeWay_L16] at h
    cases h
  | succ n ih =>
    intro v3 v4 σ r h p e s m args below meth c K hX
    have dq := @tat _ _ dt_X6_chargeWay
    rw [p_X6_chargeWay_L16] at h
    refine a_iload K (dq 9 rfl) rfl ?_
    refine a_aload_n K (dq 10 rfl) rfl rfl ?_
    refine a_get K (T := 0) (i := 0) (k := 9) (v := .ref (ρ 14 0)) v_0 rfl rfl in_X6 (Nat.le_of_ble_eq_true rfl) fl_X6_57 rfl (dq 11 rfl) ?_
    obtain ⟨r2, h2, h⟩ := bnd h
    refine a_callVi K (s_X5_farms S   σ r2 h2) v_14 rfl rfl cw_X5_farms ml_X6_126 (by decide) rfl (rest := [.int v4]) rfl (Nat.le_of_ble_eq_true rfl) (dq 12 rfl) (by decide) ?_
    refine a_icmp_ge K (tgt := 51) (dq 13 rfl) rfl (fun c3 => ?_) (fun c3 => ?_)
    · have h := ite_t c3 h
      refine a_aload_n K (dq 24 rfl) rfl rfl ?_
      refine a_get K (T := 0) (i := 0) (k := 9) (v := .ref (ρ 14 0)) v_0 rfl rfl in_X6 (Nat.le_of_ble_eq_true rfl) fl_X6_57 rfl (dq 25 rfl) ?_
      refine a_aload_n K (dq 26 rfl) rfl rfl ?_
      refine a_get K (T := 0) (i := 0) (k := 0) (v := .ref (ρ 1 0)) v_0 rfl rfl in_X6 (Nat.le_of_ble_eq_true rfl) fl_X6_10 rfl (dq 27 rfl) ?_
      obtain ⟨r4, h4, h⟩ := bnd h
      refine a_callVi K (s_X5_tollsIn S   σ r4 h4) v_14 rfl rfl cw_X5_tollsIn ml_X6_119 (by decide) rfl (rest := []) rfl (Nat.le_of_ble_eq_true rfl) (dq 28 rfl) (by decide) ?_
      obtain rfl := Option.some.inj h
      exact a_iret K rfl rfl (dq 29 rfl) (Nat.le_of_ble_eq_true rfl) (Nat.le_of_ble_eq_true rfl) rfl rfl
    · have h := ite_f c3 h
      refine a_aload_n K (dq 14 rfl) rfl rfl ?_
      refine a_get K (T := 0) (i := 0) (k := 0) (v := .ref (ρ 1 0)) v_0 rfl rfl in_X6 (Nat.le_of_ble_eq_true rfl) fl_X6_10 rfl (dq 15 rfl) ?_
      refine a_aload_n K (dq 16 rfl) rfl rfl ?_
      refine a_get K (T := 0) (i := 0) (k := 9) (v := .ref (ρ 14 0)) v_0 rfl rfl in_X6 (Nat.le_of_ble_eq_true rfl) fl_X6_57 rfl (dq 17 rfl) ?_
      refine a_iload K (dq 18 rfl) rfl ?_
      obtain ⟨r5, h5, h⟩ := bnd h
      refine a_callVi K (s_X5_farmAt S v4  σ r5 h5) v_14 rfl rfl cw_X5_farmAt ml_X6_123 (by decide) rfl (rest := [.ref (ρ 1 0)]) rfl (Nat.le_of_ble_eq_true rfl) (dq 19 rfl) (by decide) ?_
      refine a_iload_n K (dq 20 rfl) rfl rfl ?_
      obtain ⟨r6, h6, h⟩ := bnd h
      refine a_callVv K (s_X1_chargeMore S r5 v3  σ r6 h6) v_1 rfl rfl cw_X1_chargeMore ml_X6_402 (by decide) rfl (rest := []) rfl (Nat.le_of_ble_eq_true rfl) (dq 21 rfl) (by decide) ?_
      refine a_iinc K (dq 22 rfl) rfl (v := (v4 + 1)) rfl (Nat.le_of_ble_eq_true rfl) (ls' := [some (.ref (ρ 0 0)), none, none, some (.int v3), some (.int (v4 + 1))]) rfl ?_
      refine a_goto K (tgt := 16) (dq 23 rfl) rfl ?_
      exact ih v3 (v4 + 1) r6 r h K hX
set_option maxRecDepth 20000 in
set_option maxHeartbeats 1000000 in
theorem s_X6_chargeWay {l : Launch} {D : va_G} {ty : Nat → ClassId} {ρ : Nat → Nat → Nat} {N0 : Nat} (S : St l ty ρ N0) (a1 : Int32) (a2 : Int32) (a3 : Int32)  (σ : Sg) (r : (Int32 × Sg)) (h : p_X6_chargeWay a1 a2 a3 σ = some r) : AMet l D ty ρ N0 yX6_chargeWay (Cond.code yX6_chargeWay cX6_chargeWay 5 (some .int) :: GW) (rmk 3 0 0) [.ref (ρ 0 0), .int a1, .int a2, .int a3] σ (oI r.1) r.2 := by
  refine am_enter S (by decide) rfl rfl (Nat.le_of_ble_eq_true rfl) ?_
  intro p e s m args below meth c K hX
  have dq := @tat _ _ dt_X6_chargeWay
  unfold p_X6_chargeWay at h
  show WA p l e _ s m args below meth c D ty ρ N0 5 _ 0 [some (.ref (ρ 0 0)), some (.int a1), some (.int a2), some (.int a3), none] [] σ 0 0
  refine a_aload_n K (dq 0 rfl) rfl rfl ?_
  refine a_get K (T := 0) (i := 0) (k := 9) (v := .ref (ρ 14 0)) v_0 rfl rfl in_X6 (Nat.le_of_ble_eq_true rfl) fl_X6_57 rfl (dq 1 rfl) ?_
  refine a_aload_n K (dq 2 rfl) rfl rfl ?_
  refine a_get K (T := 0) (i := 0) (k := 0) (v := .ref (ρ 1 0)) v_0 rfl rfl in_X6 (Nat.le_of_ble_eq_true rfl) fl_X6_10 rfl (dq 3 rfl) ?_
  refine a_iload_n K (dq 4 rfl) rfl rfl ?_
  refine a_iload_n K (dq 5 rfl) rfl rfl ?_
  obtain ⟨r1, h1, h⟩ := bnd h
  refine a_callVv K (s_X5_follow S a1 a2  σ r1 h1) v_14 rfl rfl cw_X5_follow ml_X6_145 (by decide) rfl (rest := []) rfl (Nat.le_of_ble_eq_true rfl) (dq 6 rfl) (by decide) ?_
  refine a_iconst K (dq 7 rfl) (v := 0) rfl ?_
  refine a_istore K (dq 8 rfl) (Nat.le_of_ble_eq_true rfl) (ls' := [some (.ref (ρ 0 0)), some (.int a1), some (.int a2), some (.int a3), some (.int 0)]) rfl ?_
  refine a_le2 (ls' := [some (.ref (ρ 0 0)), none, none, some (.int a3), some (.int 0)]) ⟨rfl, rfl, rfl, trivial⟩ ?_
  exact s_X6_chargeWay_L16 S    400 a3 0 r1 r h K hX
def t_X6_driveTo : List (Nat × Instr × Nat) := [(0, .aload_n 0, 1), (1, .getfield 10, 3), (4, .iload_n 1, 1), (5, .invokevirtual 173, 3), (8, .istore_n 3, 1), (9, .aload_n 0, 1), (10, .getfield 10, 3), (13, .iload_n 1, 1), (14, .iload_n 2, 1), (15, .invokevirtual 405, 3), (18, .iload_n 3, 1), (19, .iconst (-1), 1), (20, .if_icmp .ne 5, 3), (23, .iconst 0, 1), (24, .ireturn, 1), (25, .aload_n 0, 1), (26, .getfield 57, 3), (29, .aload_n 0, 1), (30, .getfield 10, 3), (33, .iload_n 3, 1), (34, .iload_n 2, 1), (35, .invokevirtual 145, 3), (38, .aload_n 0, 1), (39, .getfield 57, 3), (42, .aload_n 0, 1), (43, .getfield 10, 3), (46, .invokevirtual 119, 3), (49, .aload_n 0, 1), (50, .getfield 10, 3), (53, .iload_n 3, 1), (54, .invokevirtual 73, 3), (57, .isub, 1), (58, .istore 4, 2), (60, .aload_n 0, 1), (61, .getfield 10, 3), (64, .iload 4, 2), (66, .invokevirtual 408, 3), (69, .aload_n 0, 1), (70, .iload_n 2, 1), (71, .invokevirtual 378, 3), (74, .pop, 1), (75, .iload 4, 2), (77, .ireturn, 1)]
theorem dt_X6_driveTo : tblOK cX6_driveTo t_X6_driveTo = true := by decide +kernel
def p_X6_driveTo (a1 : Int32) (a2 : Int32) (σ : Sg) : Option (Int32 × Sg) :=
  (p_X1_farmOfDrover a1 σ).bind fun r1 => (p_X1_setFarmOfDrover a1 a2 σ).bind fun r2 => if r1 = (-1) then (some (0, r2)) else ((p_X5_follow r1 a2 r2).bind fun r4 => (p_X5_tollsIn  r4).bind fun r5 => (p_X1_tollOf r1 r4).bind fun r6 => (p_X1_countDrive (r5 - r6) r4).bind fun r7 => (p_X6_exposeFarm a2 r7).bind fun r8 => some ((r5 - r6), r8.2))
set_option maxRecDepth 20000 in
set_option maxHeartbeats 1000000 in
theorem s_X6_driveTo {l : Launch} {D : va_G} {ty : Nat → ClassId} {ρ : Nat → Nat → Nat} {N0 : Nat} (S : St l ty ρ N0) (a1 : Int32) (a2 : Int32)  (σ : Sg) (r : (Int32 × Sg)) (h : p_X6_driveTo a1 a2 σ = some r) : AMet l D ty ρ N0 yX6_driveTo (Cond.code yX6_driveTo cX6_driveTo 5 (some .int) :: GW) (rmk 4 0 0) [.ref (ρ 0 0), .int a1, .int a2] σ (oI r.1) r.2 := by
  refine am_enter S (by decide) rfl rfl (Nat.le_of_ble_eq_true rfl) ?_
  intro p e s m args below meth c K hX
  have dq := @tat _ _ dt_X6_driveTo
  unfold p_X6_driveTo at h
  show WA p l e _ s m args below meth c D ty ρ N0 5 _ 0 [some (.ref (ρ 0 0)), some (.int a1), some (.int a2), none, none] [] σ 0 0
  refine a_aload_n K (dq 0 rfl) rfl rfl ?_
  refine a_get K (T := 0) (i := 0) (k := 0) (v := .ref (ρ 1 0)) v_0 rfl rfl in_X6 (Nat.le_of_ble_eq_true rfl) fl_X6_10 rfl (dq 1 rfl) ?_
  refine a_iload_n K (dq 2 rfl) rfl rfl ?_
  obtain ⟨r1, h1, h⟩ := bnd h
  refine a_callVi K (s_X1_farmOfDrover S a1  σ r1 h1) v_1 rfl rfl cw_X1_farmOfDrover ml_X6_173 (by decide) rfl (rest := []) rfl (Nat.le_of_ble_eq_true rfl) (dq 3 rfl) (by decide) ?_
  refine a_istore_n K (dq 4 rfl) rfl (Nat.le_of_ble_eq_true rfl) (ls' := [some (.ref (ρ 0 0)), some (.int a1), some (.int a2), some (.int r1), none]) rfl ?_
  refine a_aload_n K (dq 5 rfl) rfl rfl ?_
  refine a_get K (T := 0) (i := 0) (k := 0) (v := .ref (ρ 1 0)) v_0 rfl rfl in_X6 (Nat.le_of_ble_eq_true rfl) fl_X6_10 rfl (dq 6 rfl) ?_
  refine a_iload_n K (dq 7 rfl) rfl rfl ?_
  refine a_iload_n K (dq 8 rfl) rfl rfl ?_
  obtain ⟨r2, h2, h⟩ := bnd h
  refine a_callVv K (s_X1_setFarmOfDrover S a1 a2  σ r2 h2) v_1 rfl rfl cw_X1_setFarmOfDrover ml_X6_405 (by decide) rfl (rest := []) rfl (Nat.le_of_ble_eq_true rfl) (dq 9 rfl) (by decide) ?_
  refine a_iload_n K (dq 10 rfl) rfl rfl ?_
  refine a_iconst K (dq 11 rfl) (v := (-1)) rfl ?_
  refine a_icmp_ne K (tgt := 25) (dq 12 rfl) rfl (fun c3 => ?_) (fun c3 => ?_)
  · have h := ite_f c3 h
    refine a_aload_n K (dq 15 rfl) rfl rfl ?_
    refine a_get K (T := 0) (i := 0) (k := 9) (v := .ref (ρ 14 0)) v_0 rfl rfl in_X6 (Nat.le_of_ble_eq_true rfl) fl_X6_57 rfl (dq 16 rfl) ?_
    refine a_aload_n K (dq 17 rfl) rfl rfl ?_
    refine a_get K (T := 0) (i := 0) (k := 0) (v := .ref (ρ 1 0)) v_0 rfl rfl in_X6 (Nat.le_of_ble_eq_true rfl) fl_X6_10 rfl (dq 18 rfl) ?_
    refine a_iload_n K (dq 19 rfl) rfl rfl ?_
    refine a_iload_n K (dq 20 rfl) rfl rfl ?_
    obtain ⟨r4, h4, h⟩ := bnd h
    refine a_callVv K (s_X5_follow S r1 a2  r2 r4 h4) v_14 rfl rfl cw_X5_follow ml_X6_145 (by decide) rfl (rest := []) rfl (Nat.le_of_ble_eq_true rfl) (dq 21 rfl) (by decide) ?_
    refine a_aload_n K (dq 22 rfl) rfl rfl ?_
    refine a_get K (T := 0) (i := 0) (k := 9) (v := .ref (ρ 14 0)) v_0 rfl rfl in_X6 (Nat.le_of_ble_eq_true rfl) fl_X6_57 rfl (dq 23 rfl) ?_
    refine a_aload_n K (dq 24 rfl) rfl rfl ?_
    refine a_get K (T := 0) (i := 0) (k := 0) (v := .ref (ρ 1 0)) v_0 rfl rfl in_X6 (Nat.le_of_ble_eq_true rfl) fl_X6_10 rfl (dq 25 rfl) ?_
    obtain ⟨r5, h5, h⟩ := bnd h
    refine a_callVi K (s_X5_tollsIn S   r4 r5 h5) v_14 rfl rfl cw_X5_tollsIn ml_X6_119 (by decide) rfl (rest := []) rfl (Nat.le_of_ble_eq_true rfl) (dq 26 rfl) (by decide) ?_
    refine a_aload_n K (dq 27 rfl) rfl rfl ?_
    refine a_get K (T := 0) (i := 0) (k := 0) (v := .ref (ρ 1 0)) v_0 rfl rfl in_X6 (Nat.le_of_ble_eq_true rfl) fl_X6_10 rfl (dq 28 rfl) ?_
    refine a_iload_n K (dq 29 rfl) rfl rfl ?_
    obtain ⟨r6, h6, h⟩ := bnd h
    refine a_callVi K (s_X1_tollOf S r1  r4 r6 h6) v_1 rfl rfl cw_X1_tollOf ml_X6_73 (by decide) rfl (rest := [.int r5]) rfl (Nat.le_of_ble_eq_true rfl) (dq 30 rfl) (by decide) ?_
    refine a_isub K (dq 31 rfl) ?_
    refine a_istore K (dq 32 rfl) (Nat.le_of_ble_eq_true rfl) (ls' := [some (.ref (ρ 0 0)), some (.int a1), some (.int a2), some (.int r1), some (.int (r5 - r6))]) rfl ?_
    refine a_aload_n K (dq 33 rfl) rfl rfl ?_
    refine a_get K (T := 0) (i := 0) (k := 0) (v := .ref (ρ 1 0)) v_0 rfl rfl in_X6 (Nat.le_of_ble_eq_true rfl) fl_X6_10 rfl (dq 34 rfl) ?_
    refine a_iload K (dq 35 rfl) rfl ?_
    obtain ⟨r7, h7, h⟩ := bnd h
    refine a_callVv K (s_X1_countDrive S (r5 - r6)  r4 r7 h7) v_1 rfl rfl cw_X1_countDrive ml_X6_408 (by decide) rfl (rest := []) rfl (Nat.le_of_ble_eq_true rfl) (dq 36 rfl) (by decide) ?_
    refine a_aload_n K (dq 37 rfl) rfl rfl ?_
    refine a_iload_n K (dq 38 rfl) rfl rfl ?_
    obtain ⟨r8, h8, h⟩ := bnd h
    refine a_callVi K (s_X6_exposeFarm S a2  r7 r8 h8) v_0 rfl rfl cw_X6_exposeFarm ml_X6_378 (by decide) rfl (rest := []) rfl (Nat.le_of_ble_eq_true rfl) (dq 39 rfl) (by decide) ?_
    refine a_pop K (dq 40 rfl) rfl ?_
    refine a_iload K (dq 41 rfl) rfl ?_
    obtain rfl := Option.some.inj h
    exact a_iret K rfl rfl (dq 42 rfl) (Nat.le_of_ble_eq_true rfl) (Nat.le_of_ble_eq_true rfl) rfl rfl
  · have h := ite_t c3 h
    refine a_iconst K (dq 13 rfl) (v := 0) rfl ?_
    obtain rfl := Option.some.inj h
    exact a_iret K rfl rfl (dq 14 rfl) (Nat.le_of_ble_eq_true rfl) (Nat.le_of_ble_eq_true rfl) rfl rfl
def t_X6_followWay : List (Nat × Instr × Nat) := [(0, .aload_n 0, 1), (1, .iload_n 1, 1), (2, .invokevirtual 69, 3), (5, .aload_n 0, 1), (6, .iload_n 2, 1), (7, .invokevirtual 69, 3), (10, .aload_n 0, 1), (11, .getfield 57, 3), (14, .aload_n 0, 1), (15, .getfield 10, 3), (18, .iload_n 1, 1), (19, .iload_n 2, 1), (20, .invokevirtual 145, 3), (23, .aload_n 0, 1), (24, .getfield 57, 3), (27, .invokevirtual 126, 3), (30, .ifCond .ne 14, 3), (33, .new 140, 3), (36, .dup, 1), (37, .ldc_w 310, 3), (40, .invokespecial 144, 3), (43, .athrow, 1), (44, .return_, 1)]
theorem dt_X6_followWay : tblOK cX6_followWay t_X6_followWay = true := by decide +kernel
def p_X6_followWay (a1 : Int32) (a2 : Int32) (σ : Sg) : Option ((Int32 ⊕ String) × Sg) :=
  (p_X6_requireFarm a1 σ).bind fun r1 => sm r1.1 (fun x2 => (p_X6_requireFarm a2 r1.2).bind fun r4 => sm r4.1 (fun x5 => (p_X5_follow a1 a2 r4.2).bind fun r7 => (p_X5_farms  r7).bind fun r8 => if r8 = 0 then (some (.inr "java/util/NoSuchElementException", r7)) else (some (.inl 0, r7))) (fun E6 => some (.inr E6, r4.2))) (fun E3 => some (.inr E3, r1.2))
set_option maxRecDepth 20000 in
set_option maxHeartbeats 1000000 in
theorem s_X6_followWay {l : Launch} {D : va_G} {ty : Nat → ClassId} {ρ : Nat → Nat → Nat} {N0 : Nat} (S : St l ty ρ N0) (a1 : Int32) (a2 : Int32)  (σ : Sg) (r : ((Int32 ⊕ String) × Sg)) (h : p_X6_followWay a1 a2 σ = some r) : AMet l D ty ρ N0 yX6_followWay (Cond.code yX6_followWay cX6_followWay 3 none :: GW) (rmk 3 3 18) [.ref (ρ 0 0), .int a1, .int a2] σ (oV r.1) r.2 := by
  refine am_enter S (by decide) rfl rfl (Nat.le_of_ble_eq_true rfl) ?_
  intro p e s m args below meth c K hX
  have dq := @tat _ _ dt_X6_followWay
  unfold p_X6_followWay at h
  show WA p l e _ s m args below meth c D ty ρ N0 3 _ 0 [some (.ref (ρ 0 0)), some (.int a1), some (.int a2)] [] σ 0 0
  refine a_aload_n K (dq 0 rfl) rfl rfl ?_
  refine a_iload_n K (dq 1 rfl) rfl rfl ?_
  obtain ⟨r1, h1, h⟩ := bnd h
  refine a_callVvt K (s_X6_requireFarm S a1  σ r1 h1) v_0 rfl rfl cw_X6_requireFarm ml_X6_69 (by decide) rfl (rest := []) rfl (Nat.le_of_ble_eq_true rfl) (dq 2 rfl) (by decide) (fun x2 hx2 => ?_) (fun E3 hE3 => ?_)
  · have h := sm_l hx2 h
    refine a_aload_n K (dq 3 rfl) rfl rfl ?_
    refine a_iload_n K (dq 4 rfl) rfl rfl ?_
    obtain ⟨r4, h4, h⟩ := bnd h
    refine a_callVvt K (s_X6_requireFarm S a2  r1.2 r4 h4) v_0 rfl rfl cw_X6_requireFarm ml_X6_69 (by decide) rfl (rest := []) rfl (Nat.le_of_ble_eq_true rfl) (dq 5 rfl) (by decide) (fun x5 hx5 => ?_) (fun E6 hE6 => ?_)
    · have h := sm_l hx5 h
      refine a_aload_n K (dq 6 rfl) rfl rfl ?_
      refine a_get K (T := 0) (i := 0) (k := 9) (v := .ref (ρ 14 0)) v_0 rfl rfl in_X6 (Nat.le_of_ble_eq_true rfl) fl_X6_57 rfl (dq 7 rfl) ?_
      refine a_aload_n K (dq 8 rfl) rfl rfl ?_
      refine a_get K (T := 0) (i := 0) (k := 0) (v := .ref (ρ 1 0)) v_0 rfl rfl in_X6 (Nat.le_of_ble_eq_true rfl) fl_X6_10 rfl (dq 9 rfl) ?_
      refine a_iload_n K (dq 10 rfl) rfl rfl ?_
      refine a_iload_n K (dq 11 rfl) rfl rfl ?_
      obtain ⟨r7, h7, h⟩ := bnd h
      refine a_callVv K (s_X5_follow S a1 a2  r4.2 r7 h7) v_14 rfl rfl cw_X5_follow ml_X6_145 (by decide) rfl (rest := []) rfl (Nat.le_of_ble_eq_true rfl) (dq 12 rfl) (by decide) ?_
      refine a_aload_n K (dq 13 rfl) rfl rfl ?_
      refine a_get K (T := 0) (i := 0) (k := 9) (v := .ref (ρ 14 0)) v_0 rfl rfl in_X6 (Nat.le_of_ble_eq_true rfl) fl_X6_57 rfl (dq 14 rfl) ?_
      obtain ⟨r8, h8, h⟩ := bnd h
      refine a_callVi K (s_X5_farms S   r7 r8 h8) v_14 rfl rfl cw_X5_farms ml_X6_126 (by decide) rfl (rest := []) rfl (Nat.le_of_ble_eq_true rfl) (dq 15 rfl) (by decide) ?_
      refine a_if_ne K (tgt := 44) (dq 16 rfl) rfl (fun c9 => ?_) (fun c9 => ?_)
      · have h := ite_f c9 h
        obtain rfl := Option.some.inj h
        exact a_vret K rfl (dq 22 rfl) (Nat.le_of_ble_eq_true rfl) (Nat.le_of_ble_eq_true rfl) rfl rfl
      · have h := ite_t c9 h
        obtain rfl := Option.some.inj h
        exact a_throwNW K hX th_X6_140_310_144 (dq 17 rfl) (dq 18 rfl) (dq 19 rfl) (dq 20 rfl) (dq 21 rfl) (Nat.le_of_ble_eq_true rfl) (Nat.le_of_ble_eq_true rfl) (Nat.le_of_ble_eq_true rfl) (Nat.le_of_ble_eq_true rfl) (Nat.le_of_ble_eq_true rfl) (Nat.le_of_ble_eq_true rfl) rfl rfl
    · have h := sm_r hE6 h
      obtain rfl := Option.some.inj h
      exact a_out K hX (Nat.le_of_ble_eq_true rfl) (Nat.le_of_ble_eq_true rfl) rfl rfl
  · have h := sm_r hE3 h
    obtain rfl := Option.some.inj h
    exact a_out K hX (Nat.le_of_ble_eq_true rfl) (Nat.le_of_ble_eq_true rfl) rfl rfl
def t_X6_next : List (Nat × Instr × Nat) := [(0, .aload_n 0, 1), (1, .iload_n 1, 1), (2, .iload_n 2, 1), (3, .invokevirtual 102, 3), (6, .aload_n 0, 1), (7, .iconst 1, 1), (8, .invokevirtual 110, 3), (11, .ireturn, 1)]
theorem dt_X6_next : tblOK cX6_next t_X6_next = true := by decide +kernel
def p_X6_next (a1 : Int32) (a2 : Int32) (σ : Sg) : Option ((Int32 ⊕ String) × Sg) :=
  (p_X6_followWay a1 a2 σ).bind fun r1 => sm r1.1 (fun x2 => (p_X6_farmOnWay 1 r1.2).bind fun r4 => sm r4.1 (fun x5 => some (.inl x5, r4.2)) (fun E6 => some (.inr E6, r4.2))) (fun E3 => some (.inr E3, r1.2))
set_option maxRecDepth 20000 in
set_option maxHeartbeats 1000000 in
theorem s_X6_next {l : Launch} {D : va_G} {ty : Nat → ClassId} {ρ : Nat → Nat → Nat} {N0 : Nat} (S : St l ty ρ N0) (a1 : Int32) (a2 : Int32)  (σ : Sg) (r : ((Int32 ⊕ String) × Sg)) (h : p_X6_next a1 a2 σ = some r) : AMet l D ty ρ N0 yX6_next (Cond.code yX6_next cX6_next 3 (some .int) :: GW) (rmk 4 4 24) [.ref (ρ 0 0), .int a1, .int a2] σ (oT r.1) r.2 := by
  refine am_enter S (by decide) rfl rfl (Nat.le_of_ble_eq_true rfl) ?_
  intro p e s m args below meth c K hX
  have dq := @tat _ _ dt_X6_next
  unfold p_X6_next at h
  show WA p l e _ s m args below meth c D ty ρ N0 3 _ 0 [some (.ref (ρ 0 0)), some (.int a1), some (.int a2)] [] σ 0 0
  refine a_aload_n K (dq 0 rfl) rfl rfl ?_
  refine a_iload_n K (dq 1 rfl) rfl rfl ?_
  refine a_iload_n K (dq 2 rfl) rfl rfl ?_
  obtain ⟨r1, h1, h⟩ := bnd h
  refine a_callVvt K (s_X6_followWay S a1 a2  σ r1 h1) v_0 rfl rfl cw_X6_followWay ml_X6_102 (by decide) rfl (rest := []) rfl (Nat.le_of_ble_eq_true rfl) (dq 3 rfl) (by decide) (fun x2 hx2 => ?_) (fun E3 hE3 => ?_)
  · have h := sm_l hx2 h
    refine a_aload_n K (dq 4 rfl) rfl rfl ?_
    refine a_iconst K (dq 5 rfl) (v := 1) rfl ?_
    obtain ⟨r4, h4, h⟩ := bnd h
    refine a_callVt K (s_X6_farmOnWay S 1  r1.2 r4 h4) v_0 rfl rfl cw_X6_farmOnWay ml_X6_110 (by decide) rfl (rest := []) rfl (Nat.le_of_ble_eq_true rfl) (dq 6 rfl) (by decide) (fun x5 hx5 => ?_) (fun E6 hE6 => ?_)
    · have h := sm_l hx5 h
      obtain rfl := Option.some.inj h
      exact a_iret K rfl rfl (dq 7 rfl) (Nat.le_of_ble_eq_true rfl) (Nat.le_of_ble_eq_true rfl) rfl rfl
    · have h := sm_r hE6 h
      obtain rfl := Option.some.inj h
      exact a_out K hX (Nat.le_of_ble_eq_true rfl) (Nat.le_of_ble_eq_true rfl) rfl rfl
  · have h := sm_r hE3 h
    obtain rfl := Option.some.inj h
    exact a_out K hX (Nat.le_of_ble_eq_true rfl) (Nat.le_of_ble_eq_true rfl) rfl rfl
def t_X6_onWay : List (Nat × Instr × Nat) := [(0, .aload_n 0, 1), (1, .iload_n 1, 1), (2, .iload_n 2, 1), (3, .invokevirtual 102, 3), (6, .aload_n 0, 1), (7, .iload_n 3, 1), (8, .invokevirtual 110, 3), (11, .ireturn, 1)]
theorem dt_X6_onWay : tblOK cX6_onWay t_X6_onWay = true := by decide +kernel
def p_X6_onWay (a1 : Int32) (a2 : Int32) (a3 : Int32) (σ : Sg) : Option ((Int32 ⊕ String) × Sg) :=
  (p_X6_followWay a1 a2 σ).bind fun r1 => sm r1.1 (fun x2 => (p_X6_farmOnWay a3 r1.2).bind fun r4 => sm r4.1 (fun x5 => some (.inl x5, r4.2)) (fun E6 => some (.inr E6, r4.2))) (fun E3 => some (.inr E3, r1.2))
set_option maxRecDepth 20000 in
set_option maxHeartbeats 1000000 in
theorem s_X6_onWay {l : Launch} {D : va_G} {ty : Nat → ClassId} {ρ : Nat → Nat → Nat} {N0 : Nat} (S : St l ty ρ N0) (a1 : Int32) (a2 : Int32) (a3 : Int32)  (σ : Sg) (r : ((Int32 ⊕ String) × Sg)) (h : p_X6_onWay a1 a2 a3 σ = some r) : AMet l D ty ρ N0 yX6_onWay (Cond.code yX6_onWay cX6_onWay 4 (some .int) :: GW) (rmk 4 4 24) [.ref (ρ 0 0), .int a1, .int a2, .int a3] σ (oT r.1) r.2 := by
  refine am_enter S (by decide) rfl rfl (Nat.le_of_ble_eq_true rfl) ?_
  intro p e s m args below meth c K hX
  have dq := @tat _ _ dt_X6_onWay
  unfold p_X6_onWay at h
  show WA p l e _ s m args below meth c D ty ρ N0 4 _ 0 [some (.ref (ρ 0 0)), some (.int a1), some (.int a2), some (.int a3)] [] σ 0 0
  refine a_aload_n K (dq 0 rfl) rfl rfl ?_
  refine a_iload_n K (dq 1 rfl) rfl rfl ?_
  refine a_iload_n K (dq 2 rfl) rfl rfl ?_
  obtain ⟨r1, h1, h⟩ := bnd h
  refine a_callVvt K (s_X6_followWay S a1 a2  σ r1 h1) v_0 rfl rfl cw_X6_followWay ml_X6_102 (by decide) rfl (rest := []) rfl (Nat.le_of_ble_eq_true rfl) (dq 3 rfl) (by decide) (fun x2 hx2 => ?_) (fun E3 hE3 => ?_)
  · have h := sm_l hx2 h
    refine a_aload_n K (dq 4 rfl) rfl rfl ?_
    refine a_iload_n K (dq 5 rfl) rfl rfl ?_
    obtain ⟨r4, h4, h⟩ := bnd h
    refine a_callVt K (s_X6_farmOnWay S a3  r1.2 r4 h4) v_0 rfl rfl cw_X6_farmOnWay ml_X6_110 (by decide) rfl (rest := []) rfl (Nat.le_of_ble_eq_true rfl) (dq 6 rfl) (by decide) (fun x5 hx5 => ?_) (fun E6 hE6 => ?_)
    · have h := sm_l hx5 h
      obtain rfl := Option.some.inj h
      exact a_iret K rfl rfl (dq 7 rfl) (Nat.le_of_ble_eq_true rfl) (Nat.le_of_ble_eq_true rfl) rfl rfl
    · have h := sm_r hE6 h
      obtain rfl := Option.some.inj h
      exact a_out K hX (Nat.le_of_ble_eq_true rfl) (Nat.le_of_ble_eq_true rfl) rfl rfl
  · have h := sm_r hE3 h
    obtain rfl := Option.some.inj h
    exact a_out K hX (Nat.le_of_ble_eq_true rfl) (Nat.le_of_ble_eq_true rfl) rfl rfl
def t_X6_meet : List (Nat × Instr × Nat) := [(0, .aload_n 0, 1), (1, .iload_n 1, 1), (2, .iload_n 2, 1), (3, .invokevirtual 102, 3), (6, .aload_n 0, 1), (7, .getfield 57, 3), (10, .invokevirtual 113, 3), (13, .ireturn, 1)]
theorem dt_X6_meet : tblOK cX6_meet t_X6_meet = true := by decide +kernel
def p_X6_meet (a1 : Int32) (a2 : Int32) (σ : Sg) : Option ((Int32 ⊕ String) × Sg) :=
  (p_X6_followWay a1 a2 σ).bind fun r1 => sm r1.1 (fun x2 => (p_X5_highestFarm  r1.2).bind fun r4 => some (.inl r4, r1.2)) (fun E3 => some (.inr E3, r1.2))
set_option maxRecDepth 20000 in
set_option maxHeartbeats 1000000 in
theorem s_X6_meet {l : Launch} {D : va_G} {ty : Nat → ClassId} {ρ : Nat → Nat → Nat} {N0 : Nat} (S : St l ty ρ N0) (a1 : Int32) (a2 : Int32)  (σ : Sg) (r : ((Int32 ⊕ String) × Sg)) (h : p_X6_meet a1 a2 σ = some r) : AMet l D ty ρ N0 yX6_meet (Cond.code yX6_meet cX6_meet 3 (some .int) :: GW) (rmk 4 3 18) [.ref (ρ 0 0), .int a1, .int a2] σ (oT r.1) r.2 := by
  refine am_enter S (by decide) rfl rfl (Nat.le_of_ble_eq_true rfl) ?_
  intro p e s m args below meth c K hX
  have dq := @tat _ _ dt_X6_meet
  unfold p_X6_meet at h
  show WA p l e _ s m args below meth c D ty ρ N0 3 _ 0 [some (.ref (ρ 0 0)), some (.int a1), some (.int a2)] [] σ 0 0
  refine a_aload_n K (dq 0 rfl) rfl rfl ?_
  refine a_iload_n K (dq 1 rfl) rfl rfl ?_
  refine a_iload_n K (dq 2 rfl) rfl rfl ?_
  obtain ⟨r1, h1, h⟩ := bnd h
  refine a_callVvt K (s_X6_followWay S a1 a2  σ r1 h1) v_0 rfl rfl cw_X6_followWay ml_X6_102 (by decide) rfl (rest := []) rfl (Nat.le_of_ble_eq_true rfl) (dq 3 rfl) (by decide) (fun x2 hx2 => ?_) (fun E3 hE3 => ?_)
  · have h := sm_l hx2 h
    refine a_aload_n K (dq 4 rfl) rfl rfl ?_
    refine a_get K (T := 0) (i := 0) (k := 9) (v := .ref (ρ 14 0)) v_0 rfl rfl in_X6 (Nat.le_of_ble_eq_true rfl) fl_X6_57 rfl (dq 5 rfl) ?_
    obtain ⟨r4, h4, h⟩ := bnd h
    refine a_callVi K (s_X5_highestFarm S   r1.2 r4 h4) v_14 rfl rfl cw_X5_highestFarm ml_X6_113 (by decide) rfl (rest := []) rfl (Nat.le_of_ble_eq_true rfl) (dq 6 rfl) (by decide) ?_
    obtain rfl := Option.some.inj h
    exact a_iret K rfl rfl (dq 7 rfl) (Nat.le_of_ble_eq_true rfl) (Nat.le_of_ble_eq_true rfl) rfl rfl
  · have h := sm_r hE3 h
    obtain rfl := Option.some.inj h
    exact a_out K hX (Nat.le_of_ble_eq_true rfl) (Nat.le_of_ble_eq_true rfl) rfl rfl
def t_X6_sum : List (Nat × Instr × Nat) := [(0, .aload_n 0, 1), (1, .iload_n 1, 1), (2, .iload_n 2, 1), (3, .invokevirtual 102, 3), (6, .aload_n 0, 1), (7, .getfield 57, 3), (10, .invokevirtual 113, 3), (13, .istore_n 3, 1), (14, .aload_n 0, 1), (15, .getfield 10, 3), (18, .iload_n 3, 1), (19, .invokevirtual 116, 3), (22, .aload_n 0, 1), (23, .getfield 10, 3), (26, .aload_n 0, 1), (27, .getfield 10, 3), (30, .iload_n 3, 1), (31, .invokevirtual 77, 3), (34, .invokevirtual 116, 3), (37, .iadd, 1), (38, .istore 4, 2), (40, .aload_n 0, 1), (41, .getfield 10, 3), (44, .iload_n 1, 1), (45, .invokevirtual 116, 3), (48, .aload_n 0, 1), (49, .getfield 10, 3), (52, .iload_n 2, 1), (53, .invokevirtual 116, 3), (56, .iadd, 1), (57, .iload 4, 2), (59, .isub, 1), (60, .ireturn, 1)]
theorem dt_X6_sum : tblOK cX6_sum t_X6_sum = true := by decide +kernel
def p_X6_sum (a1 : Int32) (a2 : Int32) (σ : Sg) : Option ((Int32 ⊕ String) × Sg) :=
  (p_X6_followWay a1 a2 σ).bind fun r1 => sm r1.1 (fun x2 => (p_X5_highestFarm  r1.2).bind fun r4 => (p_X1_tollsToRoot r4 r1.2).bind fun r5 => (p_X1_parentOf r4 r1.2).bind fun r6 => (p_X1_tollsToRoot r6 r1.2).bind fun r7 => (p_X1_tollsToRoot a1 r1.2).bind fun r8 => (p_X1_tollsToRoot a2 r1.2).bind fun r9 => some (.inl ((r8 + r9) - (r5 + r7)), r1.2)) (fun E3 => some (.inr E3, r1.2))
set_option maxRecDepth 20000 in
set_option maxHeartbeats 1000000 in
theorem s_X6_sum {l : Launch} {D : va_G} {ty : Nat → ClassId} {ρ : Nat → Nat → Nat} {N0 : Nat} (S : St l ty ρ N0) (a1 : Int32) (a2 : Int32)  (σ : Sg) (r : ((Int32 ⊕ String) × Sg)) (h : p_X6_sum a1 a2 σ = some r) : AMet l D ty ρ N0 yX6_sum (Cond.code yX6_sum cX6_sum 5 (some .int) :: GW) (rmk 4 3 18) [.ref (ρ 0 0), .int a1, .int a2] σ (oT r.1) r.2 := by
  refine am_enter S (by decide) rfl rfl (Nat.le_of_ble_eq_true rfl) ?_
  intro p e s m args below meth c K hX
  have dq := @tat _ _ dt_X6_sum
  unfold p_X6_sum at h
  show WA p l e _ s m args below meth c D ty ρ N0 5 _ 0 [some (.ref (ρ 0 0)), some (.int a1), some (.int a2), none, none] [] σ 0 0
  refine a_aload_n K (dq 0 rfl) rfl rfl ?_
  refine a_iload_n K (dq 1 rfl) rfl rfl ?_
  refine a_iload_n K (dq 2 rfl) rfl rfl ?_
  obtain ⟨r1, h1, h⟩ := bnd h
  refine a_callVvt K (s_X6_followWay S a1 a2  σ r1 h1) v_0 rfl rfl cw_X6_followWay ml_X6_102 (by decide) rfl (rest := []) rfl (Nat.le_of_ble_eq_true rfl) (dq 3 rfl) (by decide) (fun x2 hx2 => ?_) (fun E3 hE3 => ?_)
  · have h := sm_l hx2 h
    refine a_aload_n K (dq 4 rfl) rfl rfl ?_
    refine a_get K (T := 0) (i := 0) (k := 9) (v := .ref (ρ 14 0)) v_0 rfl rfl in_X6 (Nat.le_of_ble_eq_true rfl) fl_X6_57 rfl (dq 5 rfl) ?_
    obtain ⟨r4, h4, h⟩ := bnd h
    refine a_callVi K (s_X5_highestFarm S   r1.2 r4 h4) v_14 rfl rfl cw_X5_highestFarm ml_X6_113 (by decide) rfl (rest := []) rfl (Nat.le_of_ble_eq_true rfl) (dq 6 rfl) (by decide) ?_
    refine a_istore_n K (dq 7 rfl) rfl (Nat.le_of_ble_eq_true rfl) (ls' := [some (.ref (ρ 0 0)), some (.int a1), some (.int a2), some (.int r4), none]) rfl ?_
    refine a_aload_n K (dq 8 rfl) rfl rfl ?_
    refine a_get K (T := 0) (i := 0) (k := 0) (v := .ref (ρ 1 0)) v_0 rfl rfl in_X6 (Nat.le_of_ble_eq_true rfl) fl_X6_10 rfl (dq 9 rfl) ?_
    refine a_iload_n K (dq 10 rfl) rfl rfl ?_
    obtain ⟨r5, h5, h⟩ := bnd h
    refine a_callVi K (s_X1_tollsToRoot S r4  r1.2 r5 h5) v_1 rfl rfl cw_X1_tollsToRoot ml_X6_116 (by decide) rfl (rest := []) rfl (Nat.le_of_ble_eq_true rfl) (dq 11 rfl) (by decide) ?_
    refine a_aload_n K (dq 12 rfl) rfl rfl ?_
    refine a_get K (T := 0) (i := 0) (k := 0) (v := .ref (ρ 1 0)) v_0 rfl rfl in_X6 (Nat.le_of_ble_eq_true rfl) fl_X6_10 rfl (dq 13 rfl) ?_
    refine a_aload_n K (dq 14 rfl) rfl rfl ?_
    refine a_get K (T := 0) (i := 0) (k := 0) (v := .ref (ρ 1 0)) v_0 rfl rfl in_X6 (Nat.le_of_ble_eq_true rfl) fl_X6_10 rfl (dq 15 rfl) ?_
    refine a_iload_n K (dq 16 rfl) rfl rfl ?_
    obtain ⟨r6, h6, h⟩ := bnd h
    refine a_callVi K (s_X1_parentOf S r4  r1.2 r6 h6) v_1 rfl rfl cw_X1_parentOf ml_X6_77 (by decide) rfl (rest := [.ref (ρ 1 0), .int r5]) rfl (Nat.le_of_ble_eq_true rfl) (dq 17 rfl) (by decide) ?_
    obtain ⟨r7, h7, h⟩ := bnd h
    refine a_callVi K (s_X1_tollsToRoot S r6  r1.2 r7 h7) v_1 rfl rfl cw_X1_tollsToRoot ml_X6_116 (by decide) rfl (rest := [.int r5]) rfl (Nat.le_of_ble_eq_true rfl) (dq 18 rfl) (by decide) ?_
    refine a_iadd K (dq 19 rfl) ?_
    refine a_istore K (dq 20 rfl) (Nat.le_of_ble_eq_true rfl) (ls' := [some (.ref (ρ 0 0)), some (.int a1), some (.int a2), some (.int r4), some (.int (r5 + r7))]) rfl ?_
    refine a_aload_n K (dq 21 rfl) rfl rfl ?_
    refine a_get K (T := 0) (i := 0) (k := 0) (v := .ref (ρ 1 0)) v_0 rfl rfl in_X6 (Nat.le_of_ble_eq_true rfl) fl_X6_10 rfl (dq 22 rfl) ?_
    refine a_iload_n K (dq 23 rfl) rfl rfl ?_
    obtain ⟨r8, h8, h⟩ := bnd h
    refine a_callVi K (s_X1_tollsToRoot S a1  r1.2 r8 h8) v_1 rfl rfl cw_X1_tollsToRoot ml_X6_116 (by decide) rfl (rest := []) rfl (Nat.le_of_ble_eq_true rfl) (dq 24 rfl) (by decide) ?_
    refine a_aload_n K (dq 25 rfl) rfl rfl ?_
    refine a_get K (T := 0) (i := 0) (k := 0) (v := .ref (ρ 1 0)) v_0 rfl rfl in_X6 (Nat.le_of_ble_eq_true rfl) fl_X6_10 rfl (dq 26 rfl) ?_
    refine a_iload_n K (dq 27 rfl) rfl rfl ?_
    obtain ⟨r9, h9, h⟩ := bnd h
    refine a_callVi K (s_X1_tollsToRoot S a2  r1.2 r9 h9) v_1 rfl rfl cw_X1_tollsToRoot ml_X6_116 (by decide) rfl (rest := [.int r8]) rfl (Nat.le_of_ble_eq_true rfl) (dq 28 rfl) (by decide) ?_
    refine a_iadd K (dq 29 rfl) ?_
    refine a_iload K (dq 30 rfl) rfl ?_
    refine a_isub K (dq 31 rfl) ?_
    obtain rfl := Option.some.inj h
    exact a_iret K rfl rfl (dq 32 rfl) (Nat.le_of_ble_eq_true rfl) (Nat.le_of_ble_eq_true rfl) rfl rfl
  · have h := sm_r hE3 h
    obtain rfl := Option.some.inj h
    exact a_out K hX (Nat.le_of_ble_eq_true rfl) (Nat.le_of_ble_eq_true rfl) rfl rfl
def t_X6_sumAgain : List (Nat × Instr × Nat) := [(0, .aload_n 0, 1), (1, .iload_n 1, 1), (2, .iload_n 2, 1), (3, .invokevirtual 102, 3), (6, .aload_n 0, 1), (7, .getfield 57, 3), (10, .aload_n 0, 1), (11, .getfield 10, 3), (14, .invokevirtual 119, 3), (17, .ireturn, 1)]
theorem dt_X6_sumAgain : tblOK cX6_sumAgain t_X6_sumAgain = true := by decide +kernel
def p_X6_sumAgain (a1 : Int32) (a2 : Int32) (σ : Sg) : Option ((Int32 ⊕ String) × Sg) :=
  (p_X6_followWay a1 a2 σ).bind fun r1 => sm r1.1 (fun x2 => (p_X5_tollsIn  r1.2).bind fun r4 => some (.inl r4, r1.2)) (fun E3 => some (.inr E3, r1.2))
set_option maxRecDepth 20000 in
set_option maxHeartbeats 1000000 in
theorem s_X6_sumAgain {l : Launch} {D : va_G} {ty : Nat → ClassId} {ρ : Nat → Nat → Nat} {N0 : Nat} (S : St l ty ρ N0) (a1 : Int32) (a2 : Int32)  (σ : Sg) (r : ((Int32 ⊕ String) × Sg)) (h : p_X6_sumAgain a1 a2 σ = some r) : AMet l D ty ρ N0 yX6_sumAgain (Cond.code yX6_sumAgain cX6_sumAgain 3 (some .int) :: GW) (rmk 4 3 18) [.ref (ρ 0 0), .int a1, .int a2] σ (oT r.1) r.2 := by
  refine am_enter S (by decide) rfl rfl (Nat.le_of_ble_eq_true rfl) ?_
  intro p e s m args below meth c K hX
  have dq := @tat _ _ dt_X6_sumAgain
  unfold p_X6_sumAgain at h
  show WA p l e _ s m args below meth c D ty ρ N0 3 _ 0 [some (.ref (ρ 0 0)), some (.int a1), some (.int a2)] [] σ 0 0
  refine a_aload_n K (dq 0 rfl) rfl rfl ?_
  refine a_iload_n K (dq 1 rfl) rfl rfl ?_
  refine a_iload_n K (dq 2 rfl) rfl rfl ?_
  obtain ⟨r1, h1, h⟩ := bnd h
  refine a_callVvt K (s_X6_followWay S a1 a2  σ r1 h1) v_0 rfl rfl cw_X6_followWay ml_X6_102 (by decide) rfl (rest := []) rfl (Nat.le_of_ble_eq_true rfl) (dq 3 rfl) (by decide) (fun x2 hx2 => ?_) (fun E3 hE3 => ?_)
  · have h := sm_l hx2 h
    refine a_aload_n K (dq 4 rfl) rfl rfl ?_
    refine a_get K (T := 0) (i := 0) (k := 9) (v := .ref (ρ 14 0)) v_0 rfl rfl in_X6 (Nat.le_of_ble_eq_true rfl) fl_X6_57 rfl (dq 5 rfl) ?_
    refine a_aload_n K (dq 6 rfl) rfl rfl ?_
    refine a_get K (T := 0) (i := 0) (k := 0) (v := .ref (ρ 1 0)) v_0 rfl rfl in_X6 (Nat.le_of_ble_eq_true rfl) fl_X6_10 rfl (dq 7 rfl) ?_
    obtain ⟨r4, h4, h⟩ := bnd h
    refine a_callVi K (s_X5_tollsIn S   r1.2 r4 h4) v_14 rfl rfl cw_X5_tollsIn ml_X6_119 (by decide) rfl (rest := []) rfl (Nat.le_of_ble_eq_true rfl) (dq 8 rfl) (by decide) ?_
    obtain rfl := Option.some.inj h
    exact a_iret K rfl rfl (dq 9 rfl) (Nat.le_of_ble_eq_true rfl) (Nat.le_of_ble_eq_true rfl) rfl rfl
  · have h := sm_r hE3 h
    obtain rfl := Option.some.inj h
    exact a_out K hX (Nat.le_of_ble_eq_true rfl) (Nat.le_of_ble_eq_true rfl) rfl rfl
def t_X6_dearest : List (Nat × Instr × Nat) := [(0, .aload_n 0, 1), (1, .iload_n 1, 1), (2, .iload_n 2, 1), (3, .invokevirtual 102, 3), (6, .aload_n 0, 1), (7, .getfield 57, 3), (10, .iconst 0, 1), (11, .invokevirtual 123, 3), (14, .istore_n 3, 1), (15, .iconst 1, 1), (16, .istore 4, 2), (18, .iload 4, 2), (20, .aload_n 0, 1), (21, .getfield 57, 3), (24, .invokevirtual 126, 3), (27, .if_icmp .ge 46, 3), (30, .aload_n 0, 1), (31, .getfield 10, 3), (34, .aload_n 0, 1), (35, .getfield 57, 3), (38, .iload 4, 2), (40, .invokevirtual 123, 3), (43, .invokevirtual 73, 3), (46, .aload_n 0, 1), (47, .getfield 10, 3), (50, .iload_n 3, 1), (51, .invokevirtual 73, 3), (54, .if_icmp .le 13, 3), (57, .aload_n 0, 1), (58, .getfield 57, 3), (61, .iload 4, 2), (63, .invokevirtual 123, 3), (66, .istore_n 3, 1), (67, .iinc 4 1, 3), (70, .goto (-52), 3), (73, .iload_n 3, 1), (74, .ireturn, 1)]
theorem dt_X6_dearest : tblOK cX6_dearest t_X6_dearest = true := by decide +kernel
def p_X6_dearest_L18  : Nat → Int32 → Int32 → Sg → Option (((Int32 ⊕ String) × Sg))
  | 0, _, _, _ => none
  | n + 1, v3, v4, σ => (p_X5_farms  σ).bind fun r5 => if r5 ≤ v4 then (some (.inl v3, σ)) else ((p_X5_farmAt v4 σ).bind fun r7 => (p_X1_tollOf r7 σ).bind fun r8 => (p_X1_tollOf v3 σ).bind fun r9 => if r8 ≤ r9 then (p_X6_dearest_L18 n v3 (v4 + 1) σ) else ((p_X5_farmAt v4 σ).bind fun r11 => p_X6_dearest_L18 n r11 (v4 + 1) σ))
def p_X6_dearest (a1 : Int32) (a2 : Int32) (σ : Sg) : Option ((Int32 ⊕ String) × Sg) :=
  (p_X6_followWay a1 a2 σ).bind fun r1 => sm r1.1 (fun x2 => (p_X5_farmAt 0 r1.2).bind fun r4 => p_X6_dearest_L18 400 r4 1 r1.2) (fun E3 => some (.inr E3, r1.2))
set_option maxRecDepth 20000 in
set_option maxHeartbeats 1000000 in
theorem s_X6_dearest_L18 {l : Launch} {D : va_G} {ty : Nat → ClassId} {ρ : Nat → Nat → Nat} {N0 : Nat} (S : St l ty ρ N0)   : ∀ (n : Nat) (v3 : Int32) (v4 : Int32) (σ : Sg) (r : ((Int32 ⊕ String) × Sg)) (h : p_X6_dearest_L18  n v3 v4 σ = some r) {p : Program} {e : Env} {s : State} {m : MethodId} {args : Array Value} {below : List Frame} {meth : Method} {c : Code} (K : Cx p l s m args meth c cX6_dearest 5 RX6 (some .int) D ty ρ N0) (hX : ∀ x ∈ c.exceptionTable.toList, False), WA p l e (rmk 4 3 18) s m args below meth c D ty ρ N0 5 (vx_MQ below (oQ D ty ρ N0 (oT r.1) r.2) (oX D ty ρ N0 (oT r.1) r.2) args s 3 18 (fun q => N0 ≤ q)) 18 [some (.ref (ρ 0 0)), none, none, some (.int v3), some (.int v4)] [] σ 3 18 := by
  intro n
  induction n with
  | zero =>
    intro v3 v4 σ r h
    simp only [p_X6_dearest_L18] at h
    cases h
  | succ n ih =>
    intro v3 v4 σ r h p e s m args below meth c K hX
    have dq := @tat _ _ dt_X6_dearest
    rw [p_X6_dearest_L18] at h
    refine a_iload K (dq 11 rfl) rfl ?_
    refine a_aload_n K (dq 12 rfl) rfl rfl ?_
    refine a_get K (T := 0) (i := 0) (k := 9) (v := .ref (ρ 14 0)) v_0 rfl rfl in_X6 (Nat.le_of_ble_eq_true rfl) fl_X6_57 rfl (dq 13 rfl) ?_
    obtain ⟨r5, h5, h⟩ := bnd h
    refine a_callVi K (s_X5_farms S   σ r5 h5) v_14 rfl rfl cw_X5_farms ml_X6_126 (by decide) rfl (rest := [.int v4]) rfl (Nat.le_of_ble_eq_true rfl) (dq 14 rfl) (by decide) ?_
    refine a_icmp_ge K (tgt := 73) (dq 15 rfl) rfl (fun c6 => ?_) (fun c6 => ?_)
    · have h := ite_t c6 h
      refine a_iload_n K (dq 35 rfl) rfl rfl ?_
      obtain rfl := Option.some.inj h
      exact a_iret K rfl rfl (dq 36 rfl) (Nat.le_of_ble_eq_true rfl) (Nat.le_of_ble_eq_true rfl) rfl rfl
    · have h := ite_f c6 h
      refine a_aload_n K (dq 16 rfl) rfl rfl ?_
      refine a_get K (T := 0) (i := 0) (k := 0) (v := .ref (ρ 1 0)) v_0 rfl rfl in_X6 (Nat.le_of_ble_eq_true rfl) fl_X6_10 rfl (dq 17 rfl) ?_
      refine a_aload_n K (dq 18 rfl) rfl rfl ?_
      refine a_get K (T := 0) (i := 0) (k := 9) (v := .ref (ρ 14 0)) v_0 rfl rfl in_X6 (Nat.le_of_ble_eq_true rfl) fl_X6_57 rfl (dq 19 rfl) ?_
      refine a_iload K (dq 20 rfl) rfl ?_
      obtain ⟨r7, h7, h⟩ := bnd h
      refine a_callVi K (s_X5_farmAt S v4  σ r7 h7) v_14 rfl rfl cw_X5_farmAt ml_X6_123 (by decide) rfl (rest := [.ref (ρ 1 0)]) rfl (Nat.le_of_ble_eq_true rfl) (dq 21 rfl) (by decide) ?_
      obtain ⟨r8, h8, h⟩ := bnd h
      refine a_callVi K (s_X1_tollOf S r7  σ r8 h8) v_1 rfl rfl cw_X1_tollOf ml_X6_73 (by decide) rfl (rest := []) rfl (Nat.le_of_ble_eq_true rfl) (dq 22 rfl) (by decide) ?_
      refine a_aload_n K (dq 23 rfl) rfl rfl ?_
      refine a_get K (T := 0) (i := 0) (k := 0) (v := .ref (ρ 1 0)) v_0 rfl rfl in_X6 (Nat.le_of_ble_eq_true rfl) fl_X6_10 rfl (dq 24 rfl) ?_
      refine a_iload_n K (dq 25 rfl) rfl rfl ?_
      obtain ⟨r9, h9, h⟩ := bnd h
      refine a_callVi K (s_X1_tollOf S v3  σ r9 h9) v_1 rfl rfl cw_X1_tollOf ml_X6_73 (by decide) rfl (rest := [.int r8]) rfl (Nat.le_of_ble_eq_true rfl) (dq 26 rfl) (by decide) ?_
      refine a_icmp_le K (tgt := 67) (dq 27 rfl) rfl (fun c10 => ?_) (fun c10 => ?_)
      · have h := ite_t c10 h
        refine a_iinc K (dq 33 rfl) rfl (v := (v4 + 1)) rfl (Nat.le_of_ble_eq_true rfl) (ls' := [some (.ref (ρ 0 0)), none, none, some (.int v3), some (.int (v4 + 1))]) rfl ?_
        refine a_goto K (tgt := 18) (dq 34 rfl) rfl ?_
        exact ih v3 (v4 + 1) σ r h K hX
      · have h := ite_f c10 h
        refine a_aload_n K (dq 28 rfl) rfl rfl ?_
        refine a_get K (T := 0) (i := 0) (k := 9) (v := .ref (ρ 14 0)) v_0 rfl rfl in_X6 (Nat.le_of_ble_eq_true rfl) fl_X6_57 rfl (dq 29 rfl) ?_
        refine a_iload K (dq 30 rfl) rfl ?_
        obtain ⟨r11, h11, h⟩ := bnd h
        refine a_callVi K (s_X5_farmAt S v4  σ r11 h11) v_14 rfl rfl cw_X5_farmAt ml_X6_123 (by decide) rfl (rest := []) rfl (Nat.le_of_ble_eq_true rfl) (dq 31 rfl) (by decide) ?_
        refine a_istore_n K (dq 32 rfl) rfl (Nat.le_of_ble_eq_true rfl) (ls' := [some (.ref (ρ 0 0)), none, none, some (.int r11), some (.int v4)]) rfl ?_
        refine a_iinc K (dq 33 rfl) rfl (v := (v4 + 1)) rfl (Nat.le_of_ble_eq_true rfl) (ls' := [some (.ref (ρ 0 0)), none, none, some (.int r11), some (.int (v4 + 1))]) rfl ?_
        refine a_goto K (tgt := 18) (dq 34 rfl) rfl ?_
        exact ih r11 (v4 + 1) σ r h K hX
set_option maxRecDepth 20000 in
set_option maxHeartbeats 1000000 in
theorem s_X6_dearest {l : Launch} {D : va_G} {ty : Nat → ClassId} {ρ : Nat → Nat → Nat} {N0 : Nat} (S : St l ty ρ N0) (a1 : Int32) (a2 : Int32)  (σ : Sg) (r : ((Int32 ⊕ String) × Sg)) (h : p_X6_dearest a1 a2 σ = some r) : AMet l D ty ρ N0 yX6_dearest (Cond.code yX6_dearest cX6_dearest 5 (some .int) :: GW) (rmk 4 3 18) [.ref (ρ 0 0), .int a1, .int a2] σ (oT r.1) r.2 := by
  refine am_enter S (by decide) rfl rfl (Nat.le_of_ble_eq_true rfl) ?_
  intro p e s m args below meth c K hX
  have dq := @tat _ _ dt_X6_dearest
  unfold p_X6_dearest at h
  show WA p l e _ s m args below meth c D ty ρ N0 5 _ 0 [some (.ref (ρ 0 0)), some (.int a1), some (.int a2), none, none] [] σ 0 0
  refine a_aload_n K (dq 0 rfl) rfl rfl ?_
  refine a_iload_n K (dq 1 rfl) rfl rfl ?_
  refine a_iload_n K (dq 2 rfl) rfl rfl ?_
  obtain ⟨r1, h1, h⟩ := bnd h
  refine a_callVvt K (s_X6_followWay S a1 a2  σ r1 h1) v_0 rfl rfl cw_X6_followWay ml_X6_102 (by decide) rfl (rest := []) rfl (Nat.le_of_ble_eq_true rfl) (dq 3 rfl) (by decide) (fun x2 hx2 => ?_) (fun E3 hE3 => ?_)
  · have h := sm_l hx2 h
    refine a_aload_n K (dq 4 rfl) rfl rfl ?_
    refine a_get K (T := 0) (i := 0) (k := 9) (v := .ref (ρ 14 0)) v_0 rfl rfl in_X6 (Nat.le_of_ble_eq_true rfl) fl_X6_57 rfl (dq 5 rfl) ?_
    refine a_iconst K (dq 6 rfl) (v := 0) rfl ?_
    obtain ⟨r4, h4, h⟩ := bnd h
    refine a_callVi K (s_X5_farmAt S 0  r1.2 r4 h4) v_14 rfl rfl cw_X5_farmAt ml_X6_123 (by decide) rfl (rest := []) rfl (Nat.le_of_ble_eq_true rfl) (dq 7 rfl) (by decide) ?_
    refine a_istore_n K (dq 8 rfl) rfl (Nat.le_of_ble_eq_true rfl) (ls' := [some (.ref (ρ 0 0)), some (.int a1), some (.int a2), some (.int r4), none]) rfl ?_
    refine a_iconst K (dq 9 rfl) (v := 1) rfl ?_
    refine a_istore K (dq 10 rfl) (Nat.le_of_ble_eq_true rfl) (ls' := [some (.ref (ρ 0 0)), some (.int a1), some (.int a2), some (.int r4), some (.int 1)]) rfl ?_
    refine a_le2 (ls' := [some (.ref (ρ 0 0)), none, none, some (.int r4), some (.int 1)]) ⟨rfl, rfl, rfl, trivial⟩ ?_
    exact s_X6_dearest_L18 S    400 r4 1 r1.2 r h K hX
  · have h := sm_r hE3 h
    obtain rfl := Option.some.inj h
    exact a_out K hX (Nat.le_of_ble_eq_true rfl) (Nat.le_of_ble_eq_true rfl) rfl rfl
def t_X6_wouldChange : List (Nat × Instr × Nat) := [(0, .aload_n 0, 1), (1, .iload_n 1, 1), (2, .invokevirtual 69, 3), (5, .aload_n 0, 1), (6, .getfield 57, 3), (9, .aload_n 0, 1), (10, .getfield 10, 3), (13, .aload_n 0, 1), (14, .getfield 10, 3), (17, .iload_n 1, 1), (18, .invokevirtual 92, 3), (21, .iload_n 1, 1), (22, .invokevirtual 145, 3), (25, .aload_n 0, 1), (26, .getfield 57, 3), (29, .aload_n 0, 1), (30, .getfield 10, 3), (33, .invokevirtual 149, 3), (36, .ireturn, 1)]
theorem dt_X6_wouldChange : tblOK cX6_wouldChange t_X6_wouldChange = true := by decide +kernel
def p_X6_wouldChange (a1 : Int32) (σ : Sg) : Option ((Int32 ⊕ String) × Sg) :=
  (p_X6_requireFarm a1 σ).bind fun r1 => sm r1.1 (fun x2 => (p_X1_rootOf a1 r1.2).bind fun r4 => (p_X5_follow r4 a1 r1.2).bind fun r5 => (p_X5_preferencesToChange  r5).bind fun r6 => some (.inl r6, r5)) (fun E3 => some (.inr E3, r1.2))
set_option maxRecDepth 20000 in
set_option maxHeartbeats 1000000 in
theorem s_X6_wouldChange {l : Launch} {D : va_G} {ty : Nat → ClassId} {ρ : Nat → Nat → Nat} {N0 : Nat} (S : St l ty ρ N0) (a1 : Int32)  (σ : Sg) (r : ((Int32 ⊕ String) × Sg)) (h : p_X6_wouldChange a1 σ = some r) : AMet l D ty ρ N0 yX6_wouldChange (Cond.code yX6_wouldChange cX6_wouldChange 2 (some .int) :: GW) (rmk 3 1 6) [.ref (ρ 0 0), .int a1] σ (oT r.1) r.2 := by
  refine am_enter S (by decide) rfl rfl (Nat.le_of_ble_eq_true rfl) ?_
  intro p e s m args below meth c K hX
  have dq := @tat _ _ dt_X6_wouldChange
  unfold p_X6_wouldChange at h
  show WA p l e _ s m args below meth c D ty ρ N0 2 _ 0 [some (.ref (ρ 0 0)), some (.int a1)] [] σ 0 0
  refine a_aload_n K (dq 0 rfl) rfl rfl ?_
  refine a_iload_n K (dq 1 rfl) rfl rfl ?_
  obtain ⟨r1, h1, h⟩ := bnd h
  refine a_callVvt K (s_X6_requireFarm S a1  σ r1 h1) v_0 rfl rfl cw_X6_requireFarm ml_X6_69 (by decide) rfl (rest := []) rfl (Nat.le_of_ble_eq_true rfl) (dq 2 rfl) (by decide) (fun x2 hx2 => ?_) (fun E3 hE3 => ?_)
  · have h := sm_l hx2 h
    refine a_aload_n K (dq 3 rfl) rfl rfl ?_
    refine a_get K (T := 0) (i := 0) (k := 9) (v := .ref (ρ 14 0)) v_0 rfl rfl in_X6 (Nat.le_of_ble_eq_true rfl) fl_X6_57 rfl (dq 4 rfl) ?_
    refine a_aload_n K (dq 5 rfl) rfl rfl ?_
    refine a_get K (T := 0) (i := 0) (k := 0) (v := .ref (ρ 1 0)) v_0 rfl rfl in_X6 (Nat.le_of_ble_eq_true rfl) fl_X6_10 rfl (dq 6 rfl) ?_
    refine a_aload_n K (dq 7 rfl) rfl rfl ?_
    refine a_get K (T := 0) (i := 0) (k := 0) (v := .ref (ρ 1 0)) v_0 rfl rfl in_X6 (Nat.le_of_ble_eq_true rfl) fl_X6_10 rfl (dq 8 rfl) ?_
    refine a_iload_n K (dq 9 rfl) rfl rfl ?_
    obtain ⟨r4, h4, h⟩ := bnd h
    refine a_callVi K (s_X1_rootOf S a1  r1.2 r4 h4) v_1 rfl rfl cw_X1_rootOf ml_X6_92 (by decide) rfl (rest := [.ref (ρ 1 0), .ref (ρ 14 0)]) rfl (Nat.le_of_ble_eq_true rfl) (dq 10 rfl) (by decide) ?_
    refine a_iload_n K (dq 11 rfl) rfl rfl ?_
    obtain ⟨r5, h5, h⟩ := bnd h
    refine a_callVv K (s_X5_follow S r4 a1  r1.2 r5 h5) v_14 rfl rfl cw_X5_follow ml_X6_145 (by decide) rfl (rest := []) rfl (Nat.le_of_ble_eq_true rfl) (dq 12 rfl) (by decide) ?_
    refine a_aload_n K (dq 13 rfl) rfl rfl ?_
    refine a_get K (T := 0) (i := 0) (k := 9) (v := .ref (ρ 14 0)) v_0 rfl rfl in_X6 (Nat.le_of_ble_eq_true rfl) fl_X6_57 rfl (dq 14 rfl) ?_
    refine a_aload_n K (dq 15 rfl) rfl rfl ?_
    refine a_get K (T := 0) (i := 0) (k := 0) (v := .ref (ρ 1 0)) v_0 rfl rfl in_X6 (Nat.le_of_ble_eq_true rfl) fl_X6_10 rfl (dq 16 rfl) ?_
    obtain ⟨r6, h6, h⟩ := bnd h
    refine a_callVi K (s_X5_preferencesToChange S   r5 r6 h6) v_14 rfl rfl cw_X5_preferencesToChange ml_X6_149 (by decide) rfl (rest := []) rfl (Nat.le_of_ble_eq_true rfl) (dq 17 rfl) (by decide) ?_
    obtain rfl := Option.some.inj h
    exact a_iret K rfl rfl (dq 18 rfl) (Nat.le_of_ble_eq_true rfl) (Nat.le_of_ble_eq_true rfl) rfl rfl
  · have h := sm_r hE3 h
    obtain rfl := Option.some.inj h
    exact a_out K hX (Nat.le_of_ble_eq_true rfl) (Nat.le_of_ble_eq_true rfl) rfl rfl
def t_X6_size : List (Nat × Instr × Nat) := [(0, .aload_n 0, 1), (1, .iload_n 1, 1), (2, .invokevirtual 69, 3), (5, .aload_n 0, 1), (6, .getfield 10, 3), (9, .iload_n 1, 1), (10, .invokevirtual 153, 3), (13, .ireturn, 1)]
theorem dt_X6_size : tblOK cX6_size t_X6_size = true := by decide +kernel
def p_X6_size (a1 : Int32) (σ : Sg) : Option ((Int32 ⊕ String) × Sg) :=
  (p_X6_requireFarm a1 σ).bind fun r1 => sm r1.1 (fun x2 => (p_X1_treeSizeOf a1 r1.2).bind fun r4 => some (.inl r4, r1.2)) (fun E3 => some (.inr E3, r1.2))
set_option maxRecDepth 20000 in
set_option maxHeartbeats 1000000 in
theorem s_X6_size {l : Launch} {D : va_G} {ty : Nat → ClassId} {ρ : Nat → Nat → Nat} {N0 : Nat} (S : St l ty ρ N0) (a1 : Int32)  (σ : Sg) (r : ((Int32 ⊕ String) × Sg)) (h : p_X6_size a1 σ = some r) : AMet l D ty ρ N0 yX6_size (Cond.code yX6_size cX6_size 2 (some .int) :: GW) (rmk 4 1 6) [.ref (ρ 0 0), .int a1] σ (oT r.1) r.2 := by
  refine am_enter S (by decide) rfl rfl (Nat.le_of_ble_eq_true rfl) ?_
  intro p e s m args below meth c K hX
  have dq := @tat _ _ dt_X6_size
  unfold p_X6_size at h
  show WA p l e _ s m args below meth c D ty ρ N0 2 _ 0 [some (.ref (ρ 0 0)), some (.int a1)] [] σ 0 0
  refine a_aload_n K (dq 0 rfl) rfl rfl ?_
  refine a_iload_n K (dq 1 rfl) rfl rfl ?_
  obtain ⟨r1, h1, h⟩ := bnd h
  refine a_callVvt K (s_X6_requireFarm S a1  σ r1 h1) v_0 rfl rfl cw_X6_requireFarm ml_X6_69 (by decide) rfl (rest := []) rfl (Nat.le_of_ble_eq_true rfl) (dq 2 rfl) (by decide) (fun x2 hx2 => ?_) (fun E3 hE3 => ?_)
  · have h := sm_l hx2 h
    refine a_aload_n K (dq 3 rfl) rfl rfl ?_
    refine a_get K (T := 0) (i := 0) (k := 0) (v := .ref (ρ 1 0)) v_0 rfl rfl in_X6 (Nat.le_of_ble_eq_true rfl) fl_X6_10 rfl (dq 4 rfl) ?_
    refine a_iload_n K (dq 5 rfl) rfl rfl ?_
    obtain ⟨r4, h4, h⟩ := bnd h
    refine a_callVi K (s_X1_treeSizeOf S a1  r1.2 r4 h4) v_1 rfl rfl cw_X1_treeSizeOf ml_X6_153 (by decide) rfl (rest := []) rfl (Nat.le_of_ble_eq_true rfl) (dq 6 rfl) (by decide) ?_
    obtain rfl := Option.some.inj h
    exact a_iret K rfl rfl (dq 7 rfl) (Nat.le_of_ble_eq_true rfl) (Nat.le_of_ble_eq_true rfl) rfl rfl
  · have h := sm_r hE3 h
    obtain rfl := Option.some.inj h
    exact a_out K hX (Nat.le_of_ble_eq_true rfl) (Nat.le_of_ble_eq_true rfl) rfl rfl
def t_X6_farthestFrom : List (Nat × Instr × Nat) := [(0, .iload_n 1, 1), (1, .istore_n 2, 1), (2, .iconst 0, 1), (3, .istore_n 3, 1), (4, .iconst 0, 1), (5, .istore 4, 2), (7, .iload 4, 2), (9, .aload_n 0, 1), (10, .getfield 10, 3), (13, .invokevirtual 152, 3), (16, .if_icmp .ge 45, 3), (19, .aload_n 0, 1), (20, .getfield 57, 3), (23, .aload_n 0, 1), (24, .getfield 10, 3), (27, .iload_n 1, 1), (28, .iload 4, 2), (30, .invokevirtual 145, 3), (33, .aload_n 0, 1), (34, .getfield 57, 3), (37, .invokevirtual 106, 3), (40, .iload_n 3, 1), (41, .if_icmp .le 14, 3), (44, .aload_n 0, 1), (45, .getfield 57, 3), (48, .invokevirtual 106, 3), (51, .istore_n 3, 1), (52, .iload 4, 2), (54, .istore_n 2, 1), (55, .iinc 4 1, 3), (58, .goto (-51), 3), (61, .iload_n 2, 1), (62, .ireturn, 1)]
theorem dt_X6_farthestFrom : tblOK cX6_farthestFrom t_X6_farthestFrom = true := by decide +kernel
def p_X6_farthestFrom_L7  : Nat → Int32 → Int32 → Int32 → Int32 → Sg → Option ((Int32 × Sg))
  | 0, _, _, _, _, _ => none
  | n + 1, v1, v2, v3, v4, σ => (p_X1_farms  σ).bind fun r1 => if r1 ≤ v4 then (some (v2, σ)) else ((p_X5_follow v1 v4 σ).bind fun r3 => (p_X5_tracks  r3).bind fun r4 => if r4 ≤ v3 then (p_X6_farthestFrom_L7 n v1 v2 v3 (v4 + 1) r3) else ((p_X5_tracks  r3).bind fun r6 => p_X6_farthestFrom_L7 n v1 v4 r6 (v4 + 1) r3))
def p_X6_farthestFrom (a1 : Int32) (σ : Sg) : Option (Int32 × Sg) :=
  p_X6_farthestFrom_L7 400 a1 a1 0 0 σ
set_option maxRecDepth 20000 in
set_option maxHeartbeats 1000000 in
theorem s_X6_farthestFrom_L7 {l : Launch} {D : va_G} {ty : Nat → ClassId} {ρ : Nat → Nat → Nat} {N0 : Nat} (S : St l ty ρ N0)   : ∀ (n : Nat) (v1 : Int32) (v2 : Int32) (v3 : Int32) (v4 : Int32) (σ : Sg) (r : (Int32 × Sg)) (h : p_X6_farthestFrom_L7  n v1 v2 v3 v4 σ = some r) {p : Program} {e : Env} {s : State} {m : MethodId} {args : Array Value} {below : List Frame} {meth : Method} {c : Code} (K : Cx p l s m args meth c cX6_farthestFrom 5 RX6 (some .int) D ty ρ N0) (hX : ∀ x ∈ c.exceptionTable.toList, False), WA p l e (rmk 3 0 0) s m args below meth c D ty ρ N0 5 (vx_MQ below (oQ D ty ρ N0 (oI r.1) r.2) (oX D ty ρ N0 (oI r.1) r.2) args s 0 0 (fun q => N0 ≤ q)) 7 [some (.ref (ρ 0 0)), some (.int v1), some (.int v2), some (.int v3), some (.int v4)] [] σ 0 0 := by
  intro n
  induction n with
  | zero =>
    intro v1 v2 v3 v4 σ r h
    simp only [p_X6_farthestFrom_L7] at h
    cases h
  | succ n ih =>
    intro v1 v2 v3 v4 σ r h p e s m args below meth c K hX
    have dq := @tat _ _ dt_X6_farthestFrom
    rw [p_X6_farthestFrom_L7] at h
    refine a_iload K (dq 6 rfl) rfl ?_
    refine a_aload_n K (dq 7 rfl) rfl rfl ?_
    refine a_get K (T := 0) (i := 0) (k := 0) (v := .ref (ρ 1 0)) v_0 rfl rfl in_X6 (Nat.le_of_ble_eq_true rfl) fl_X6_10 rfl (dq 8 rfl) ?_
    obtain ⟨r1, h1, h⟩ := bnd h
    refine a_callVi K (s_X1_farms S   σ r1 h1) v_1 rfl rfl cw_X1_farms ml_X6_152 (by decide) rfl (rest := [.int v4]) rfl (Nat.le_of_ble_eq_true rfl) (dq 9 rfl) (by decide) ?_
    refine a_icmp_ge K (tgt := 61) (dq 10 rfl) rfl (fun c2 => ?_) (fun c2 => ?_)
    · have h := ite_t c2 h
      refine a_iload_n K (dq 31 rfl) rfl rfl ?_
      obtain rfl := Option.some.inj h
      exact a_iret K rfl rfl (dq 32 rfl) (Nat.le_of_ble_eq_true rfl) (Nat.le_of_ble_eq_true rfl) rfl rfl
    · have h := ite_f c2 h
      refine a_aload_n K (dq 11 rfl) rfl rfl ?_
      refine a_get K (T := 0) (i := 0) (k := 9) (v := .ref (ρ 14 0)) v_0 rfl rfl in_X6 (Nat.le_of_ble_eq_true rfl) fl_X6_57 rfl (dq 12 rfl) ?_
      refine a_aload_n K (dq 13 rfl) rfl rfl ?_
      refine a_get K (T := 0) (i := 0) (k := 0) (v := .ref (ρ 1 0)) v_0 rfl rfl in_X6 (Nat.le_of_ble_eq_true rfl) fl_X6_10 rfl (dq 14 rfl) ?_
      refine a_iload_n K (dq 15 rfl) rfl rfl ?_
      refine a_iload K (dq 16 rfl) rfl ?_
      obtain ⟨r3, h3, h⟩ := bnd h
      refine a_callVv K (s_X5_follow S v1 v4  σ r3 h3) v_14 rfl rfl cw_X5_follow ml_X6_145 (by decide) rfl (rest := []) rfl (Nat.le_of_ble_eq_true rfl) (dq 17 rfl) (by decide) ?_
      refine a_aload_n K (dq 18 rfl) rfl rfl ?_
      refine a_get K (T := 0) (i := 0) (k := 9) (v := .ref (ρ 14 0)) v_0 rfl rfl in_X6 (Nat.le_of_ble_eq_true rfl) fl_X6_57 rfl (dq 19 rfl) ?_
      obtain ⟨r4, h4, h⟩ := bnd h
      refine a_callVi K (s_X5_tracks S   r3 r4 h4) v_14 rfl rfl cw_X5_tracks ml_X6_106 (by decide) rfl (rest := []) rfl (Nat.le_of_ble_eq_true rfl) (dq 20 rfl) (by decide) ?_
      refine a_iload_n K (dq 21 rfl) rfl rfl ?_
      refine a_icmp_le K (tgt := 55) (dq 22 rfl) rfl (fun c5 => ?_) (fun c5 => ?_)
      · have h := ite_t c5 h
        refine a_iinc K (dq 29 rfl) rfl (v := (v4 + 1)) rfl (Nat.le_of_ble_eq_true rfl) (ls' := [some (.ref (ρ 0 0)), some (.int v1), some (.int v2), some (.int v3), some (.int (v4 + 1))]) rfl ?_
        refine a_goto K (tgt := 7) (dq 30 rfl) rfl ?_
        exact ih v1 v2 v3 (v4 + 1) r3 r h K hX
      · have h := ite_f c5 h
        refine a_aload_n K (dq 23 rfl) rfl rfl ?_
        refine a_get K (T := 0) (i := 0) (k := 9) (v := .ref (ρ 14 0)) v_0 rfl rfl in_X6 (Nat.le_of_ble_eq_true rfl) fl_X6_57 rfl (dq 24 rfl) ?_
        obtain ⟨r6, h6, h⟩ := bnd h
        refine a_callVi K (s_X5_tracks S   r3 r6 h6) v_14 rfl rfl cw_X5_tracks ml_X6_106 (by decide) rfl (rest := []) rfl (Nat.le_of_ble_eq_true rfl) (dq 25 rfl) (by decide) ?_
        refine a_istore_n K (dq 26 rfl) rfl (Nat.le_of_ble_eq_true rfl) (ls' := [some (.ref (ρ 0 0)), some (.int v1), some (.int v2), some (.int r6), some (.int v4)]) rfl ?_
        refine a_iload K (dq 27 rfl) rfl ?_
        refine a_istore_n K (dq 28 rfl) rfl (Nat.le_of_ble_eq_true rfl) (ls' := [some (.ref (ρ 0 0)), some (.int v1), some (.int v4), some (.int r6), some (.int v4)]) rfl ?_
        refine a_iinc K (dq 29 rfl) rfl (v := (v4 + 1)) rfl (Nat.le_of_ble_eq_true rfl) (ls' := [some (.ref (ρ 0 0)), some (.int v1), some (.int v4), some (.int r6), some (.int (v4 + 1))]) rfl ?_
        refine a_goto K (tgt := 7) (dq 30 rfl) rfl ?_
        exact ih v1 v4 r6 (v4 + 1) r3 r h K hX
set_option maxRecDepth 20000 in
set_option maxHeartbeats 1000000 in
theorem s_X6_farthestFrom {l : Launch} {D : va_G} {ty : Nat → ClassId} {ρ : Nat → Nat → Nat} {N0 : Nat} (S : St l ty ρ N0) (a1 : Int32)  (σ : Sg) (r : (Int32 × Sg)) (h : p_X6_farthestFrom a1 σ = some r) : AMet l D ty ρ N0 yX6_farthestFrom (Cond.code yX6_farthestFrom cX6_farthestFrom 5 (some .int) :: GW) (rmk 3 0 0) [.ref (ρ 0 0), .int a1] σ (oI r.1) r.2 := by
  refine am_enter S (by decide) rfl rfl (Nat.le_of_ble_eq_true rfl) ?_
  intro p e s m args below meth c K hX
  have dq := @tat _ _ dt_X6_farthestFrom
  unfold p_X6_farthestFrom at h
  show WA p l e _ s m args below meth c D ty ρ N0 5 _ 0 [some (.ref (ρ 0 0)), some (.int a1), none, none, none] [] σ 0 0
  refine a_iload_n K (dq 0 rfl) rfl rfl ?_
  refine a_istore_n K (dq 1 rfl) rfl (Nat.le_of_ble_eq_true rfl) (ls' := [some (.ref (ρ 0 0)), some (.int a1), some (.int a1), none, none]) rfl ?_
  refine a_iconst K (dq 2 rfl) (v := 0) rfl ?_
  refine a_istore_n K (dq 3 rfl) rfl (Nat.le_of_ble_eq_true rfl) (ls' := [some (.ref (ρ 0 0)), some (.int a1), some (.int a1), some (.int 0), none]) rfl ?_
  refine a_iconst K (dq 4 rfl) (v := 0) rfl ?_
  refine a_istore K (dq 5 rfl) (Nat.le_of_ble_eq_true rfl) (ls' := [some (.ref (ρ 0 0)), some (.int a1), some (.int a1), some (.int 0), some (.int 0)]) rfl ?_
  exact s_X6_farthestFrom_L7 S    400 a1 a1 0 0 σ r h K hX
def t_X6_longest : List (Nat × Instr × Nat) := [(0, .aload_n 0, 1), (1, .iload_n 1, 1), (2, .invokevirtual 69, 3), (5, .aload_n 0, 1), (6, .iload_n 1, 1), (7, .invokevirtual 156, 3), (10, .istore_n 2, 1), (11, .aload_n 0, 1), (12, .getfield 57, 3), (15, .aload_n 0, 1), (16, .getfield 10, 3), (19, .iload_n 2, 1), (20, .aload_n 0, 1), (21, .iload_n 2, 1), (22, .invokevirtual 156, 3), (25, .invokevirtual 145, 3), (28, .aload_n 0, 1), (29, .getfield 57, 3), (32, .invokevirtual 106, 3), (35, .ireturn, 1)]
theorem dt_X6_longest : tblOK cX6_longest t_X6_longest = true := by decide +kernel
def p_X6_longest (a1 : Int32) (σ : Sg) : Option ((Int32 ⊕ String) × Sg) :=
  (p_X6_requireFarm a1 σ).bind fun r1 => sm r1.1 (fun x2 => (p_X6_farthestFrom a1 r1.2).bind fun r4 => (p_X6_farthestFrom r4.1 r4.2).bind fun r5 => (p_X5_follow r4.1 r5.1 r5.2).bind fun r6 => (p_X5_tracks  r6).bind fun r7 => some (.inl r7, r6)) (fun E3 => some (.inr E3, r1.2))
set_option maxRecDepth 20000 in
set_option maxHeartbeats 1000000 in
theorem s_X6_longest {l : Launch} {D : va_G} {ty : Nat → ClassId} {ρ : Nat → Nat → Nat} {N0 : Nat} (S : St l ty ρ N0) (a1 : Int32)  (σ : Sg) (r : ((Int32 ⊕ String) × Sg)) (h : p_X6_longest a1 σ = some r) : AMet l D ty ρ N0 yX6_longest (Cond.code yX6_longest cX6_longest 3 (some .int) :: GW) (rmk 4 1 6) [.ref (ρ 0 0), .int a1] σ (oT r.1) r.2 := by
  refine am_enter S (by decide) rfl rfl (Nat.le_of_ble_eq_true rfl) ?_
  intro p e s m args below meth c K hX
  have dq := @tat _ _ dt_X6_longest
  unfold p_X6_longest at h
  show WA p l e _ s m args below meth c D ty ρ N0 3 _ 0 [some (.ref (ρ 0 0)), some (.int a1), none] [] σ 0 0
  refine a_aload_n K (dq 0 rfl) rfl rfl ?_
  refine a_iload_n K (dq 1 rfl) rfl rfl ?_
  obtain ⟨r1, h1, h⟩ := bnd h
  refine a_callVvt K (s_X6_requireFarm S a1  σ r1 h1) v_0 rfl rfl cw_X6_requireFarm ml_X6_69 (by decide) rfl (rest := []) rfl (Nat.le_of_ble_eq_true rfl) (dq 2 rfl) (by decide) (fun x2 hx2 => ?_) (fun E3 hE3 => ?_)
  · have h := sm_l hx2 h
    refine a_aload_n K (dq 3 rfl) rfl rfl ?_
    refine a_iload_n K (dq 4 rfl) rfl rfl ?_
    obtain ⟨r4, h4, h⟩ := bnd h
    refine a_callVi K (s_X6_farthestFrom S a1  r1.2 r4 h4) v_0 rfl rfl cw_X6_farthestFrom ml_X6_156 (by decide) rfl (rest := []) rfl (Nat.le_of_ble_eq_true rfl) (dq 5 rfl) (by decide) ?_
    refine a_istore_n K (dq 6 rfl) rfl (Nat.le_of_ble_eq_true rfl) (ls' := [some (.ref (ρ 0 0)), some (.int a1), some (.int r4.1)]) rfl ?_
    refine a_aload_n K (dq 7 rfl) rfl rfl ?_
    refine a_get K (T := 0) (i := 0) (k := 9) (v := .ref (ρ 14 0)) v_0 rfl rfl in_X6 (Nat.le_of_ble_eq_true rfl) fl_X6_57 rfl (dq 8 rfl) ?_
    refine a_aload_n K (dq 9 rfl) rfl rfl ?_
    refine a_get K (T := 0) (i := 0) (k := 0) (v := .ref (ρ 1 0)) v_0 rfl rfl in_X6 (Nat.le_of_ble_eq_true rfl) fl_X6_10 rfl (dq 10 rfl) ?_
    refine a_iload_n K (dq 11 rfl) rfl rfl ?_
    refine a_aload_n K (dq 12 rfl) rfl rfl ?_
    refine a_iload_n K (dq 13 rfl) rfl rfl ?_
    obtain ⟨r5, h5, h⟩ := bnd h
    refine a_callVi K (s_X6_farthestFrom S r4.1  r4.2 r5 h5) v_0 rfl rfl cw_X6_farthestFrom ml_X6_156 (by decide) rfl (rest := [.int r4.1, .ref (ρ 1 0), .ref (ρ 14 0)]) rfl (Nat.le_of_ble_eq_true rfl) (dq 14 rfl) (by decide) ?_
    obtain ⟨r6, h6, h⟩ := bnd h
    refine a_callVv K (s_X5_follow S r4.1 r5.1  r5.2 r6 h6) v_14 rfl rfl cw_X5_follow ml_X6_145 (by decide) rfl (rest := []) rfl (Nat.le_of_ble_eq_true rfl) (dq 15 rfl) (by decide) ?_
    refine a_aload_n K (dq 16 rfl) rfl rfl ?_
    refine a_get K (T := 0) (i := 0) (k := 9) (v := .ref (ρ 14 0)) v_0 rfl rfl in_X6 (Nat.le_of_ble_eq_true rfl) fl_X6_57 rfl (dq 17 rfl) ?_
    obtain ⟨r7, h7, h⟩ := bnd h
    refine a_callVi K (s_X5_tracks S   r6 r7 h7) v_14 rfl rfl cw_X5_tracks ml_X6_106 (by decide) rfl (rest := []) rfl (Nat.le_of_ble_eq_true rfl) (dq 18 rfl) (by decide) ?_
    obtain rfl := Option.some.inj h
    exact a_iret K rfl rfl (dq 19 rfl) (Nat.le_of_ble_eq_true rfl) (Nat.le_of_ble_eq_true rfl) rfl rfl
  · have h := sm_r hE3 h
    obtain rfl := Option.some.inj h
    exact a_out K hX (Nat.le_of_ble_eq_true rfl) (Nat.le_of_ble_eq_true rfl) rfl rfl
def t_X6_wouldSplit : List (Nat × Instr × Nat) := [(0, .aload_n 0, 1), (1, .iload_n 1, 1), (2, .invokevirtual 69, 3), (5, .aload_n 0, 1), (6, .iload_n 2, 1), (7, .invokevirtual 69, 3), (10, .aload_n 0, 1), (11, .getfield 10, 3), (14, .iload_n 1, 1), (15, .iload_n 2, 1), (16, .invokevirtual 133, 3), (19, .ifCond .ne 13, 3), (22, .new 140, 3), (25, .dup, 1), (26, .ldc 159, 2), (28, .invokespecial 144, 3), (31, .athrow, 1), (32, .aload_n 0, 1), (33, .getfield 10, 3), (36, .aload_n 0, 1), (37, .getfield 10, 3), (40, .iload_n 1, 1), (41, .iload_n 2, 1), (42, .invokevirtual 161, 3), (45, .invokevirtual 89, 3), (48, .istore_n 3, 1), (49, .iload_n 3, 1), (50, .aload_n 0, 1), (51, .getfield 10, 3), (54, .iload_n 1, 1), (55, .invokevirtual 153, 3), (58, .iload_n 3, 1), (59, .isub, 1), (60, .imul, 1), (61, .ireturn, 1)]
theorem dt_X6_wouldSplit : tblOK cX6_wouldSplit t_X6_wouldSplit = true := by decide +kernel
def p_X6_wouldSplit (a1 : Int32) (a2 : Int32) (σ : Sg) : Option ((Int32 ⊕ String) × Sg) :=
  (p_X6_requireFarm a1 σ).bind fun r1 => sm r1.1 (fun x2 => (p_X6_requireFarm a2 r1.2).bind fun r4 => sm r4.1 (fun x5 => (p_X1_hasTrack a1 a2 r4.2).bind fun r7 => if r7 = 0 then (some (.inr "java/util/NoSuchElementException", r4.2)) else ((p_X1_childOfTrack a1 a2 r4.2).bind fun r9 => (p_X1_behindOf r9 r4.2).bind fun r10 => (p_X1_treeSizeOf a1 r4.2).bind fun r11 => some (.inl (r10 * (r11 - r10)), r4.2))) (fun E6 => some (.inr E6, r4.2))) (fun E3 => some (.inr E3, r1.2))
set_option maxRecDepth 20000 in
set_option maxHeartbeats 1000000 in
theorem s_X6_wouldSplit {l : Launch} {D : va_G} {ty : Nat → ClassId} {ρ : Nat → Nat → Nat} {N0 : Nat} (S : St l ty ρ N0) (a1 : Int32) (a2 : Int32)  (σ : Sg) (r : ((Int32 ⊕ String) × Sg)) (h : p_X6_wouldSplit a1 a2 σ = some r) : AMet l D ty ρ N0 yX6_wouldSplit (Cond.code yX6_wouldSplit cX6_wouldSplit 4 (some .int) :: GW) (rmk 4 3 18) [.ref (ρ 0 0), .int a1, .int a2] σ (oT r.1) r.2 := by
  refine am_enter S (by decide) rfl rfl (Nat.le_of_ble_eq_true rfl) ?_
  intro p e s m args below meth c K hX
  have dq := @tat _ _ dt_X6_wouldSplit
  unfold p_X6_wouldSplit at h
  show WA p l e _ s m args below meth c D ty ρ N0 4 _ 0 [some (.ref (ρ 0 0)), some (.int a1), some (.int a2), none] [] σ 0 0
  refine a_aload_n K (dq 0 rfl) rfl rfl ?_
  refine a_iload_n K (dq 1 rfl) rfl rfl ?_
  obtain ⟨r1, h1, h⟩ := bnd h
  refine a_callVvt K (s_X6_requireFarm S a1  σ r1 h1) v_0 rfl rfl cw_X6_requireFarm ml_X6_69 (by decide) rfl (rest := []) rfl (Nat.le_of_ble_eq_true rfl) (dq 2 rfl) (by decide) (fun x2 hx2 => ?_) (fun E3 hE3 => ?_)
  · have h := sm_l hx2 h
    refine a_aload_n K (dq 3 rfl) rfl rfl ?_
    refine a_iload_n K (dq 4 rfl) rfl rfl ?_
    obtain ⟨r4, h4, h⟩ := bnd h
    refine a_callVvt K (s_X6_requireFarm S a2  r1.2 r4 h4) v_0 rfl rfl cw_X6_requireFarm ml_X6_69 (by decide) rfl (rest := []) rfl (Nat.le_of_ble_eq_true rfl) (dq 5 rfl) (by decide) (fun x5 hx5 => ?_) (fun E6 hE6 => ?_)
    · have h := sm_l hx5 h
      refine a_aload_n K (dq 6 rfl) rfl rfl ?_
      refine a_get K (T := 0) (i := 0) (k := 0) (v := .ref (ρ 1 0)) v_0 rfl rfl in_X6 (Nat.le_of_ble_eq_true rfl) fl_X6_10 rfl (dq 7 rfl) ?_
      refine a_iload_n K (dq 8 rfl) rfl rfl ?_
      refine a_iload_n K (dq 9 rfl) rfl rfl ?_
      obtain ⟨r7, h7, h⟩ := bnd h
      refine a_callVi K (s_X1_hasTrack S a1 a2  r4.2 r7 h7) v_1 rfl rfl cw_X1_hasTrack ml_X6_133 (by decide) rfl (rest := []) rfl (Nat.le_of_ble_eq_true rfl) (dq 10 rfl) (by decide) ?_
      refine a_if_ne K (tgt := 32) (dq 11 rfl) rfl (fun c8 => ?_) (fun c8 => ?_)
      · have h := ite_f c8 h
        refine a_aload_n K (dq 17 rfl) rfl rfl ?_
        refine a_get K (T := 0) (i := 0) (k := 0) (v := .ref (ρ 1 0)) v_0 rfl rfl in_X6 (Nat.le_of_ble_eq_true rfl) fl_X6_10 rfl (dq 18 rfl) ?_
        refine a_aload_n K (dq 19 rfl) rfl rfl ?_
        refine a_get K (T := 0) (i := 0) (k := 0) (v := .ref (ρ 1 0)) v_0 rfl rfl in_X6 (Nat.le_of_ble_eq_true rfl) fl_X6_10 rfl (dq 20 rfl) ?_
        refine a_iload_n K (dq 21 rfl) rfl rfl ?_
        refine a_iload_n K (dq 22 rfl) rfl rfl ?_
        obtain ⟨r9, h9, h⟩ := bnd h
        refine a_callVi K (s_X1_childOfTrack S a1 a2  r4.2 r9 h9) v_1 rfl rfl cw_X1_childOfTrack ml_X6_161 (by decide) rfl (rest := [.ref (ρ 1 0)]) rfl (Nat.le_of_ble_eq_true rfl) (dq 23 rfl) (by decide) ?_
        obtain ⟨r10, h10, h⟩ := bnd h
        refine a_callVi K (s_X1_behindOf S r9  r4.2 r10 h10) v_1 rfl rfl cw_X1_behindOf ml_X6_89 (by decide) rfl (rest := []) rfl (Nat.le_of_ble_eq_true rfl) (dq 24 rfl) (by decide) ?_
        refine a_istore_n K (dq 25 rfl) rfl (Nat.le_of_ble_eq_true rfl) (ls' := [some (.ref (ρ 0 0)), some (.int a1), some (.int a2), some (.int r10)]) rfl ?_
        refine a_iload_n K (dq 26 rfl) rfl rfl ?_
        refine a_aload_n K (dq 27 rfl) rfl rfl ?_
        refine a_get K (T := 0) (i := 0) (k := 0) (v := .ref (ρ 1 0)) v_0 rfl rfl in_X6 (Nat.le_of_ble_eq_true rfl) fl_X6_10 rfl (dq 28 rfl) ?_
        refine a_iload_n K (dq 29 rfl) rfl rfl ?_
        obtain ⟨r11, h11, h⟩ := bnd h
        refine a_callVi K (s_X1_treeSizeOf S a1  r4.2 r11 h11) v_1 rfl rfl cw_X1_treeSizeOf ml_X6_153 (by decide) rfl (rest := [.int r10]) rfl (Nat.le_of_ble_eq_true rfl) (dq 30 rfl) (by decide) ?_
        refine a_iload_n K (dq 31 rfl) rfl rfl ?_
        refine a_isub K (dq 32 rfl) ?_
        refine a_imul K (dq 33 rfl) ?_
        obtain rfl := Option.some.inj h
        exact a_iret K rfl rfl (dq 34 rfl) (Nat.le_of_ble_eq_true rfl) (Nat.le_of_ble_eq_true rfl) rfl rfl
      · have h := ite_t c8 h
        obtain rfl := Option.some.inj h
        exact a_throwNS K hX th_X6_140_159_144 (dq 12 rfl) (dq 13 rfl) (dq 14 rfl) (dq 15 rfl) (dq 16 rfl) (Nat.le_of_ble_eq_true rfl) (Nat.le_of_ble_eq_true rfl) (Nat.le_of_ble_eq_true rfl) (Nat.le_of_ble_eq_true rfl) (Nat.le_of_ble_eq_true rfl) (Nat.le_of_ble_eq_true rfl) rfl rfl
    · have h := sm_r hE6 h
      obtain rfl := Option.some.inj h
      exact a_out K hX (Nat.le_of_ble_eq_true rfl) (Nat.le_of_ble_eq_true rfl) rfl rfl
  · have h := sm_r hE3 h
    obtain rfl := Option.some.inj h
    exact a_out K hX (Nat.le_of_ble_eq_true rfl) (Nat.le_of_ble_eq_true rfl) rfl rfl
def t_X6_fillRankKeys : List (Nat × Instr × Nat) := [(0, .iconst 0, 1), (1, .istore_n 1, 1), (2, .iload_n 1, 1), (3, .aload_n 0, 1), (4, .getfield 10, 3), (7, .invokevirtual 152, 3), (10, .if_icmp .ge 54, 3), (13, .iload_n 1, 1), (14, .aload_n 0, 1), (15, .getfield 61, 3), (18, .arraylength, 1), (19, .if_icmp .ge 45, 3), (22, .bipush 12, 2), (24, .aload_n 0, 1), (25, .getfield 10, 3), (28, .iload_n 1, 1), (29, .invokevirtual 89, 3), (32, .isub, 1), (33, .istore_n 2, 1), (34, .aload_n 0, 1), (35, .getfield 61, 3), (38, .iload_n 1, 1), (39, .iload_n 2, 1), (40, .bipush 12, 2), (42, .imul, 1), (43, .aload_n 0, 1), (44, .getfield 10, 3), (47, .iload_n 1, 1), (48, .invokevirtual 83, 3), (51, .iadd, 1), (52, .bipush 12, 2), (54, .imul, 1), (55, .iload_n 1, 1), (56, .iadd, 1), (57, .iastore, 1), (58, .iinc 1 1, 3), (61, .goto (-59), 3), (64, .return_, 1)]
theorem dt_X6_fillRankKeys : tblOK cX6_fillRankKeys t_X6_fillRankKeys = true := by decide +kernel
def p_X6_fillRankKeys_L2  : Nat → Int32 → Sg → Option Sg
  | 0, _, _ => none
  | n + 1, v1, σ => (p_X1_farms  σ).bind fun r1 => if r1 ≤ v1 then (some σ) else (if 12 ≤ v1 then (some σ) else ((p_X1_behindOf v1 σ).bind fun r4 => (p_X1_depthOf v1 σ).bind fun r5 => if ib v1 12 then (p_X6_fillRankKeys_L2 n (v1 + 1) (sA σ 16 0 v1.toNatClampNeg (((((12 - r4) * 12) + r5) * 12) + v1))) else none))
def p_X6_fillRankKeys  (σ : Sg) : Option Sg :=
  p_X6_fillRankKeys_L2 400 0 σ
set_option maxRecDepth 20000 in
set_option maxHeartbeats 1000000 in
theorem s_X6_fillRankKeys_L2 {l : Launch} {D : va_G} {ty : Nat → ClassId} {ρ : Nat → Nat → Nat} {N0 : Nat} (S : St l ty ρ N0)   : ∀ (n : Nat) (v1 : Int32) (σ : Sg) (r : Sg) (h : p_X6_fillRankKeys_L2  n v1 σ = some r) {p : Program} {e : Env} {s : State} {m : MethodId} {args : Array Value} {below : List Frame} {meth : Method} {c : Code} (K : Cx p l s m args meth c cX6_fillRankKeys 3 RX6 none D ty ρ N0) (hX : ∀ x ∈ c.exceptionTable.toList, False), WA p l e (rmk 4 0 0) s m args below meth c D ty ρ N0 3 (vx_MQ below (oQ D ty ρ N0 (.inl none) r) (oX D ty ρ N0 (.inl none) r) args s 0 0 (fun q => N0 ≤ q)) 2 [some (.ref (ρ 0 0)), some (.int v1), none] [] σ 0 0 := by
  intro n
  induction n with
  | zero =>
    intro v1 σ r h
    simp only [p_X6_fillRankKeys_L2] at h
    cases h
  | succ n ih =>
    intro v1 σ r h p e s m args below meth c K hX
    have dq := @tat _ _ dt_X6_fillRankKeys
    rw [p_X6_fillRankKeys_L2] at h
    refine a_iload_n K (dq 2 rfl) rfl rfl ?_
    refine a_aload_n K (dq 3 rfl) rfl rfl ?_
    refine a_get K (T := 0) (i := 0) (k := 0) (v := .ref (ρ 1 0)) v_0 rfl rfl in_X6 (Nat.le_of_ble_eq_true rfl) fl_X6_10 rfl (dq 4 rfl) ?_
    obtain ⟨r1, h1, h⟩ := bnd h
    refine a_callVi K (s_X1_farms S   σ r1 h1) v_1 rfl rfl cw_X1_farms ml_X6_152 (by decide) rfl (rest := [.int v1]) rfl (Nat.le_of_ble_eq_true rfl) (dq 5 rfl) (by decide) ?_
    refine a_icmp_ge K (tgt := 64) (dq 6 rfl) rfl (fun c2 => ?_) (fun c2 => ?_)
    · have h := ite_t c2 h
      obtain rfl := Option.some.inj h
      exact a_vret K rfl (dq 37 rfl) (Nat.le_of_ble_eq_true rfl) (Nat.le_of_ble_eq_true rfl) rfl rfl
    · have h := ite_f c2 h
      refine a_iload_n K (dq 7 rfl) rfl rfl ?_
      refine a_aload_n K (dq 8 rfl) rfl rfl ?_
      refine a_get K (T := 0) (i := 0) (k := 10) (v := .ref (ρ 16 0)) v_0 rfl rfl in_X6 (Nat.le_of_ble_eq_true rfl) fl_X6_61 rfl (dq 9 rfl) ?_
      refine a_ilen K (T := 16) (i := 0) (v := 12) v_16 rfl rfl rfl (dq 10 rfl) ?_
      refine a_icmp_ge K (tgt := 64) (dq 11 rfl) rfl (fun c3 => ?_) (fun c3 => ?_)
      · have h := ite_t c3 h
        obtain rfl := Option.some.inj h
        exact a_vret K rfl (dq 37 rfl) (Nat.le_of_ble_eq_true rfl) (Nat.le_of_ble_eq_true rfl) rfl rfl
      · have h := ite_f c3 h
        refine a_bipush K (dq 12 rfl) (v := 12) rfl ?_
        refine a_aload_n K (dq 13 rfl) rfl rfl ?_
        refine a_get K (T := 0) (i := 0) (k := 0) (v := .ref (ρ 1 0)) v_0 rfl rfl in_X6 (Nat.le_of_ble_eq_true rfl) fl_X6_10 rfl (dq 14 rfl) ?_
        refine a_iload_n K (dq 15 rfl) rfl rfl ?_
        obtain ⟨r4, h4, h⟩ := bnd h
        refine a_callVi K (s_X1_behindOf S v1  σ r4 h4) v_1 rfl rfl cw_X1_behindOf ml_X6_89 (by decide) rfl (rest := [.int 12]) rfl (Nat.le_of_ble_eq_true rfl) (dq 16 rfl) (by decide) ?_
        refine a_isub K (dq 17 rfl) ?_
        refine a_istore_n K (dq 18 rfl) rfl (Nat.le_of_ble_eq_true rfl) (ls' := [some (.ref (ρ 0 0)), some (.int v1), some (.int (12 - r4))]) rfl ?_
        refine a_aload_n K (dq 19 rfl) rfl rfl ?_
        refine a_get K (T := 0) (i := 0) (k := 10) (v := .ref (ρ 16 0)) v_0 rfl rfl in_X6 (Nat.le_of_ble_eq_true rfl) fl_X6_61 rfl (dq 20 rfl) ?_
        refine a_iload_n K (dq 21 rfl) rfl rfl ?_
        refine a_iload_n K (dq 22 rfl) rfl rfl ?_
        refine a_bipush K (dq 23 rfl) (v := 12) rfl ?_
        refine a_imul K (dq 24 rfl) ?_
        refine a_aload_n K (dq 25 rfl) rfl rfl ?_
        refine a_get K (T := 0) (i := 0) (k := 0) (v := .ref (ρ 1 0)) v_0 rfl rfl in_X6 (Nat.le_of_ble_eq_true rfl) fl_X6_10 rfl (dq 26 rfl) ?_
        refine a_iload_n K (dq 27 rfl) rfl rfl ?_
        obtain ⟨r5, h5, h⟩ := bnd h
        refine a_callVi K (s_X1_depthOf S v1  σ r5 h5) v_1 rfl rfl cw_X1_depthOf ml_X6_83 (by decide) rfl (rest := [.int ((12 - r4) * 12), .int v1, .ref (ρ 16 0)]) rfl (Nat.le_of_ble_eq_true rfl) (dq 28 rfl) (by decide) ?_
        refine a_iadd K (dq 29 rfl) ?_
        refine a_bipush K (dq 30 rfl) (v := 12) rfl ?_
        refine a_imul K (dq 31 rfl) ?_
        refine a_iload_n K (dq 32 rfl) rfl rfl ?_
        refine a_iadd K (dq 33 rfl) ?_
        obtain ⟨c6, h⟩ := ib_some h
        refine a_iast K (T := 16) (i := 0) v_16 rfl rfl c6 (dq 34 rfl) ?_
        refine a_iinc K (dq 35 rfl) rfl (v := (v1 + 1)) rfl (Nat.le_of_ble_eq_true rfl) (ls' := [some (.ref (ρ 0 0)), some (.int (v1 + 1)), some (.int (12 - r4))]) rfl ?_
        refine a_goto K (tgt := 2) (dq 36 rfl) rfl ?_
        refine a_le2 (ls' := [some (.ref (ρ 0 0)), some (.int (v1 + 1)), none]) ⟨rfl, rfl, trivial⟩ ?_
        exact ih (v1 + 1) (sA σ 16 0 v1.toNatClampNeg (((((12 - r4) * 12) + r5) * 12) + v1)) r h K hX
set_option maxRecDepth 20000 in
set_option maxHeartbeats 1000000 in
theorem s_X6_fillRankKeys {l : Launch} {D : va_G} {ty : Nat → ClassId} {ρ : Nat → Nat → Nat} {N0 : Nat} (S : St l ty ρ N0)   (σ : Sg) (r : Sg) (h : p_X6_fillRankKeys  σ = some r) : AMet l D ty ρ N0 yX6_fillRankKeys (Cond.code yX6_fillRankKeys cX6_fillRankKeys 3 none :: GW) (rmk 4 0 0) [.ref (ρ 0 0)] σ (.inl none) r := by
  refine am_enter S (by decide) rfl rfl (Nat.le_of_ble_eq_true rfl) ?_
  intro p e s m args below meth c K hX
  have dq := @tat _ _ dt_X6_fillRankKeys
  unfold p_X6_fillRankKeys at h
  show WA p l e _ s m args below meth c D ty ρ N0 3 _ 0 [some (.ref (ρ 0 0)), none, none] [] σ 0 0
  refine a_iconst K (dq 0 rfl) (v := 0) rfl ?_
  refine a_istore_n K (dq 1 rfl) rfl (Nat.le_of_ble_eq_true rfl) (ls' := [some (.ref (ρ 0 0)), some (.int 0), none]) rfl ?_
  exact s_X6_fillRankKeys_L2 S    400 0 σ r h K hX
def t_X6_append : List (Nat × Instr × Nat) := [(0, .aload_n 0, 1), (1, .getfield 39, 3), (4, .invokevirtual 184, 3), (7, .ifCond .eq 13, 3), (10, .new 188, 3), (13, .dup, 1), (14, .ldc 190, 2), (16, .invokespecial 192, 3), (19, .athrow, 1), (20, .aload_n 0, 1), (21, .getfield 39, 3), (24, .iload_n 1, 1), (25, .invokevirtual 193, 3), (28, .aload_n 0, 1), (29, .getfield 39, 3), (32, .invokevirtual 197, 3), (35, .ireturn, 1)]
theorem dt_X6_append : tblOK cX6_append t_X6_append = true := by decide +kernel
def p_X6_append (a1 : Int32) (σ : Sg) : Option ((Int32 ⊕ String) × Sg) :=
  (p_X4_isFull  σ).bind fun r1 => if r1 = 0 then ((p_X4_add a1 σ).bind fun r3 => (p_X4_length  r3).bind fun r4 => some (.inl r4, r3)) else (some (.inr "java/lang/IllegalStateException", σ))
set_option maxRecDepth 20000 in
set_option maxHeartbeats 1000000 in
theorem s_X6_append {l : Launch} {D : va_G} {ty : Nat → ClassId} {ρ : Nat → Nat → Nat} {N0 : Nat} (S : St l ty ρ N0) (a1 : Int32)  (σ : Sg) (r : ((Int32 ⊕ String) × Sg)) (h : p_X6_append a1 σ = some r) : AMet l D ty ρ N0 yX6_append (Cond.code yX6_append cX6_append 2 (some .int) :: GW) (rmk 2 1 6) [.ref (ρ 0 0), .int a1] σ (oT r.1) r.2 := by
  refine am_enter S (by decide) rfl rfl (Nat.le_of_ble_eq_true rfl) ?_
  intro p e s m args below meth c K hX
  have dq := @tat _ _ dt_X6_append
  unfold p_X6_append at h
  show WA p l e _ s m args below meth c D ty ρ N0 2 _ 0 [some (.ref (ρ 0 0)), some (.int a1)] [] σ 0 0
  refine a_aload_n K (dq 0 rfl) rfl rfl ?_
  refine a_get K (T := 0) (i := 0) (k := 6) (v := .ref (ρ 9 0)) v_0 rfl rfl in_X6 (Nat.le_of_ble_eq_true rfl) fl_X6_39 rfl (dq 1 rfl) ?_
  obtain ⟨r1, h1, h⟩ := bnd h
  refine a_callVi K (s_X4_isFull S   σ r1 h1) v_9 rfl rfl cw_X4_isFull ml_X6_184 (by decide) rfl (rest := []) rfl (Nat.le_of_ble_eq_true rfl) (dq 2 rfl) (by decide) ?_
  refine a_if_eq K (tgt := 20) (dq 3 rfl) rfl (fun c2 => ?_) (fun c2 => ?_)
  · have h := ite_t c2 h
    refine a_aload_n K (dq 9 rfl) rfl rfl ?_
    refine a_get K (T := 0) (i := 0) (k := 6) (v := .ref (ρ 9 0)) v_0 rfl rfl in_X6 (Nat.le_of_ble_eq_true rfl) fl_X6_39 rfl (dq 10 rfl) ?_
    refine a_iload_n K (dq 11 rfl) rfl rfl ?_
    obtain ⟨r3, h3, h⟩ := bnd h
    refine a_callVv K (s_X4_add S a1  σ r3 h3) v_9 rfl rfl cw_X4_add ml_X6_193 (by decide) rfl (rest := []) rfl (Nat.le_of_ble_eq_true rfl) (dq 12 rfl) (by decide) ?_
    refine a_aload_n K (dq 13 rfl) rfl rfl ?_
    refine a_get K (T := 0) (i := 0) (k := 6) (v := .ref (ρ 9 0)) v_0 rfl rfl in_X6 (Nat.le_of_ble_eq_true rfl) fl_X6_39 rfl (dq 14 rfl) ?_
    obtain ⟨r4, h4, h⟩ := bnd h
    refine a_callVi K (s_X4_length S   r3 r4 h4) v_9 rfl rfl cw_X4_length ml_X6_197 (by decide) rfl (rest := []) rfl (Nat.le_of_ble_eq_true rfl) (dq 15 rfl) (by decide) ?_
    obtain rfl := Option.some.inj h
    exact a_iret K rfl rfl (dq 16 rfl) (Nat.le_of_ble_eq_true rfl) (Nat.le_of_ble_eq_true rfl) rfl rfl
  · have h := ite_f c2 h
    obtain rfl := Option.some.inj h
    exact a_throwS K hX th_X6_188_190_192 (dq 4 rfl) (dq 5 rfl) (dq 6 rfl) (dq 7 rfl) (dq 8 rfl) (Nat.le_of_ble_eq_true rfl) (Nat.le_of_ble_eq_true rfl) (Nat.le_of_ble_eq_true rfl) (Nat.le_of_ble_eq_true rfl) (Nat.le_of_ble_eq_true rfl) (Nat.le_of_ble_eq_true rfl) rfl rfl
def t_X6_reason : List (Nat × Instr × Nat) := [(0, .iload_n 1, 1), (1, .ifCond .lt 8, 3), (4, .iload_n 1, 1), (5, .iconst 2, 1), (6, .if_icmp .le 13, 3), (9, .new 95, 3), (12, .dup, 1), (13, .ldc 219, 2), (15, .invokespecial 99, 3), (18, .athrow, 1), (19, .aload_n 0, 1), (20, .getfield 32, 3), (23, .invokevirtual 221, 3), (26, .ifCond .ne 13, 3), (29, .new 140, 3), (32, .dup, 1), (33, .ldc 224, 2), (35, .invokespecial 144, 3), (38, .athrow, 1), (39, .iload_n 1, 1), (40, .lookupswitch 44 #[(0, 28), (1, 36)], 28), (68, .aload_n 0, 1), (69, .getfield 32, 3), (72, .invokevirtual 226, 3), (75, .ireturn, 1), (76, .aload_n 0, 1), (77, .getfield 32, 3), (80, .invokevirtual 229, 3), (83, .ireturn, 1), (84, .aload_n 0, 1), (85, .getfield 32, 3), (88, .invokevirtual 232, 3), (91, .ireturn, 1)]
theorem dt_X6_reason : tblOK cX6_reason t_X6_reason = true := by decide +kernel
def p_X6_reason (a1 : Int32) (σ : Sg) : Option ((Int32 ⊕ String) × Sg) :=
  if a1 < 0 then (some (.inr "java/lang/IllegalArgumentException", σ)) else (if a1 ≤ 2 then ((p_X3_isKept  σ).bind fun r3 => if r3 = 0 then (some (.inr "java/util/NoSuchElementException", σ)) else (if a1 = 0 then ((p_X3_number  σ).bind fun r6 => some (.inl r6, σ)) else (if a1 = 1 then ((p_X3_detail  σ).bind fun r8 => some (.inl r8, σ)) else ((p_X3_command  σ).bind fun r9 => some (.inl r9, σ))))) else (some (.inr "java/lang/IllegalArgumentException", σ)))
set_option maxRecDepth 20000 in
set_option maxHeartbeats 1000000 in
theorem s_X6_reason {l : Launch} {D : va_G} {ty : Nat → ClassId} {ρ : Nat → Nat → Nat} {N0 : Nat} (S : St l ty ρ N0) (a1 : Int32)  (σ : Sg) (r : ((Int32 ⊕ String) × Sg)) (h : p_X6_reason a1 σ = some r) : AMet l D ty ρ N0 yX6_reason (Cond.code yX6_reason cX6_reason 2 (some .int) :: GW) (rmk 2 1 6) [.ref (ρ 0 0), .int a1] σ (oT r.1) r.2 := by
  refine am_enter S (by decide) rfl rfl (Nat.le_of_ble_eq_true rfl) ?_
  intro p e s m args below meth c K hX
  have dq := @tat _ _ dt_X6_reason
  unfold p_X6_reason at h
  show WA p l e _ s m args below meth c D ty ρ N0 2 _ 0 [some (.ref (ρ 0 0)), some (.int a1)] [] σ 0 0
  refine a_iload_n K (dq 0 rfl) rfl rfl ?_
  refine a_if_lt K (tgt := 9) (dq 1 rfl) rfl (fun c1 => ?_) (fun c1 => ?_)
  · have h := ite_t c1 h
    obtain rfl := Option.some.inj h
    exact a_throwS K hX th_X6_95_219_99 (dq 5 rfl) (dq 6 rfl) (dq 7 rfl) (dq 8 rfl) (dq 9 rfl) (Nat.le_of_ble_eq_true rfl) (Nat.le_of_ble_eq_true rfl) (Nat.le_of_ble_eq_true rfl) (Nat.le_of_ble_eq_true rfl) (Nat.le_of_ble_eq_true rfl) (Nat.le_of_ble_eq_true rfl) rfl rfl
  · have h := ite_f c1 h
    refine a_iload_n K (dq 2 rfl) rfl rfl ?_
    refine a_iconst K (dq 3 rfl) (v := 2) rfl ?_
    refine a_icmp_le K (tgt := 19) (dq 4 rfl) rfl (fun c2 => ?_) (fun c2 => ?_)
    · have h := ite_t c2 h
      refine a_aload_n K (dq 10 rfl) rfl rfl ?_
      refine a_get K (T := 0) (i := 0) (k := 5) (v := .ref (ρ 8 0)) v_0 rfl rfl in_X6 (Nat.le_of_ble_eq_true rfl) fl_X6_32 rfl (dq 11 rfl) ?_
      obtain ⟨r3, h3, h⟩ := bnd h
      refine a_callVi K (s_X3_isKept S   σ r3 h3) v_8 rfl rfl cw_X3_isKept ml_X6_221 (by decide) rfl (rest := []) rfl (Nat.le_of_ble_eq_true rfl) (dq 12 rfl) (by decide) ?_
      refine a_if_ne K (tgt := 39) (dq 13 rfl) rfl (fun c4 => ?_) (fun c4 => ?_)
      · have h := ite_f c4 h
        refine a_iload_n K (dq 19 rfl) rfl rfl ?_
        by_cases c5 : a1 = 0
        · have h := ite_t c5 h
          refine a_lookup K (off := 28) (tgt := 68) (dq 20 rfl) (by decide) (by rw [c5]; decide) rfl ?_
          refine a_aload_n K (dq 21 rfl) rfl rfl ?_
          refine a_get K (T := 0) (i := 0) (k := 5) (v := .ref (ρ 8 0)) v_0 rfl rfl in_X6 (Nat.le_of_ble_eq_true rfl) fl_X6_32 rfl (dq 22 rfl) ?_
          obtain ⟨r6, h6, h⟩ := bnd h
          refine a_callVi K (s_X3_number S   σ r6 h6) v_8 rfl rfl cw_X3_number ml_X6_226 (by decide) rfl (rest := []) rfl (Nat.le_of_ble_eq_true rfl) (dq 23 rfl) (by decide) ?_
          obtain rfl := Option.some.inj h
          exact a_iret K rfl rfl (dq 24 rfl) (Nat.le_of_ble_eq_true rfl) (Nat.le_of_ble_eq_true rfl) rfl rfl
        · have h := ite_f c5 h
          by_cases c7 : a1 = 1
          · have h := ite_t c7 h
            refine a_lookup K (off := 36) (tgt := 76) (dq 20 rfl) (by decide) (by rw [c7]; decide) rfl ?_
            refine a_aload_n K (dq 25 rfl) rfl rfl ?_
            refine a_get K (T := 0) (i := 0) (k := 5) (v := .ref (ρ 8 0)) v_0 rfl rfl in_X6 (Nat.le_of_ble_eq_true rfl) fl_X6_32 rfl (dq 26 rfl) ?_
            obtain ⟨r8, h8, h⟩ := bnd h
            refine a_callVi K (s_X3_detail S   σ r8 h8) v_8 rfl rfl cw_X3_detail ml_X6_229 (by decide) rfl (rest := []) rfl (Nat.le_of_ble_eq_true rfl) (dq 27 rfl) (by decide) ?_
            obtain rfl := Option.some.inj h
            exact a_iret K rfl rfl (dq 28 rfl) (Nat.le_of_ble_eq_true rfl) (Nat.le_of_ble_eq_true rfl) rfl rfl
          · have h := ite_f c7 h
            refine a_lookup K (off := 44) (tgt := 84) (dq 20 rfl) (by decide) (by show Op.lookupswitch.offset [(0, 28), (1, 36)] _ _ = _; rw [lv_osw c5 (by decide)]; rw [lv_osw c7 (by decide)]; rfl) rfl ?_
            refine a_aload_n K (dq 29 rfl) rfl rfl ?_
            refine a_get K (T := 0) (i := 0) (k := 5) (v := .ref (ρ 8 0)) v_0 rfl rfl in_X6 (Nat.le_of_ble_eq_true rfl) fl_X6_32 rfl (dq 30 rfl) ?_
            obtain ⟨r9, h9, h⟩ := bnd h
            refine a_callVi K (s_X3_command S   σ r9 h9) v_8 rfl rfl cw_X3_command ml_X6_232 (by decide) rfl (rest := []) rfl (Nat.le_of_ble_eq_true rfl) (dq 31 rfl) (by decide) ?_
            obtain rfl := Option.some.inj h
            exact a_iret K rfl rfl (dq 32 rfl) (Nat.le_of_ble_eq_true rfl) (Nat.le_of_ble_eq_true rfl) rfl rfl
      · have h := ite_t c4 h
        obtain rfl := Option.some.inj h
        exact a_throwNS K hX th_X6_140_224_144 (dq 14 rfl) (dq 15 rfl) (dq 16 rfl) (dq 17 rfl) (dq 18 rfl) (Nat.le_of_ble_eq_true rfl) (Nat.le_of_ble_eq_true rfl) (Nat.le_of_ble_eq_true rfl) (Nat.le_of_ble_eq_true rfl) (Nat.le_of_ble_eq_true rfl) (Nat.le_of_ble_eq_true rfl) rfl rfl
    · have h := ite_f c2 h
      obtain rfl := Option.some.inj h
      exact a_throwS K hX th_X6_95_219_99 (dq 5 rfl) (dq 6 rfl) (dq 7 rfl) (dq 8 rfl) (dq 9 rfl) (Nat.le_of_ble_eq_true rfl) (Nat.le_of_ble_eq_true rfl) (Nat.le_of_ble_eq_true rfl) (Nat.le_of_ble_eq_true rfl) (Nat.le_of_ble_eq_true rfl) (Nat.le_of_ble_eq_true rfl) rfl rfl
def t_X6_way : List (Nat × Instr × Nat) := [(0, .aload_n 0, 1), (1, .iload_n 1, 1), (2, .iload_n 2, 1), (3, .invokevirtual 102, 3), (6, .aload_n 0, 1), (7, .getfield 50, 3), (10, .invokevirtual 235, 3), (13, .iconst 0, 1), (14, .istore_n 3, 1), (15, .iload_n 3, 1), (16, .aload_n 0, 1), (17, .getfield 57, 3), (20, .invokevirtual 126, 3), (23, .if_icmp .ge 68, 3), (26, .iload_n 3, 1), (27, .ifCond .le 12, 3), (30, .aload_n 0, 1), (31, .getfield 50, 3), (34, .bipush 62, 2), (36, .invokevirtual 236, 3), (39, .aload_n 0, 1), (40, .getfield 50, 3), (43, .aload_n 0, 1), (44, .getfield 57, 3), (47, .iload_n 3, 1), (48, .invokevirtual 123, 3), (51, .invokevirtual 239, 3), (54, .aload_n 0, 1), (55, .getfield 50, 3), (58, .bipush 36, 2), (60, .invokevirtual 236, 3), (63, .aload_n 0, 1), (64, .getfield 50, 3), (67, .aload_n 0, 1), (68, .getfield 10, 3), (71, .aload_n 0, 1), (72, .getfield 57, 3), (75, .iload_n 3, 1), (76, .invokevirtual 123, 3), (79, .invokevirtual 73, 3), (82, .invokevirtual 239, 3), (85, .iinc 3 1, 3), (88, .goto (-73), 3), (91, .aload_n 0, 1), (92, .getfield 50, 3), (95, .invokevirtual 242, 3), (98, .ireturn, 1)]
theorem dt_X6_way : tblOK cX6_way t_X6_way = true := by decide +kernel
def p_X6_way_L15  : Nat → Int32 → Sg → Option (((Int32 ⊕ String) × Sg))
  | 0, _, _ => none
  | n + 1, v3, σ => (p_X5_farms  σ).bind fun r5 => if r5 ≤ v3 then ((p_X2_length  σ).bind fun r7 => some (.inl r7, σ)) else (if v3 ≤ 0 then ((p_X5_farmAt v3 σ).bind fun r9 => (p_X2_writeNumber r9 σ).bind fun r10 => (p_X2_write 36 r10).bind fun r11 => (p_X5_farmAt v3 r11).bind fun r12 => (p_X1_tollOf r12 r11).bind fun r13 => (p_X2_writeNumber r13 r11).bind fun r14 => p_X6_way_L15 n (v3 + 1) r14) else ((p_X2_write 62 σ).bind fun r15 => (p_X5_farmAt v3 r15).bind fun r16 => (p_X2_writeNumber r16 r15).bind fun r17 => (p_X2_write 36 r17).bind fun r18 => (p_X5_farmAt v3 r18).bind fun r19 => (p_X1_tollOf r19 r18).bind fun r20 => (p_X2_writeNumber r20 r18).bind fun r21 => p_X6_way_L15 n (v3 + 1) r21))
def p_X6_way (a1 : Int32) (a2 : Int32) (σ : Sg) : Option ((Int32 ⊕ String) × Sg) :=
  (p_X6_followWay a1 a2 σ).bind fun r1 => sm r1.1 (fun x2 => (p_X2_clear  r1.2).bind fun r4 => p_X6_way_L15 400 0 r4) (fun E3 => some (.inr E3, r1.2))
set_option maxRecDepth 20000 in
set_option maxHeartbeats 1000000 in
theorem s_X6_way_L15 {l : Launch} {D : va_G} {ty : Nat → ClassId} {ρ : Nat → Nat → Nat} {N0 : Nat} (S : St l ty ρ N0)   : ∀ (n : Nat) (v3 : Int32) (σ : Sg) (r : ((Int32 ⊕ String) × Sg)) (h : p_X6_way_L15  n v3 σ = some r) {p : Program} {e : Env} {s : State} {m : MethodId} {args : Array Value} {below : List Frame} {meth : Method} {c : Code} (K : Cx p l s m args meth c cX6_way 4 RX6 (some .int) D ty ρ N0) (hX : ∀ x ∈ c.exceptionTable.toList, False), WA p l e (rmk 4 3 18) s m args below meth c D ty ρ N0 4 (vx_MQ below (oQ D ty ρ N0 (oT r.1) r.2) (oX D ty ρ N0 (oT r.1) r.2) args s 3 18 (fun q => N0 ≤ q)) 15 [some (.ref (ρ 0 0)), none, none, some (.int v3)] [] σ 3 18 := by
  intro n
  induction n with
  | zero =>
    intro v3 σ r h
    simp only [p_X6_way_L15] at h
    cases h
  | succ n ih =>
    intro v3 σ r h p e s m args below meth c K hX
    have dq := @tat _ _ dt_X6_way
    rw [p_X6_way_L15] at h
    refine a_iload_n K (dq 9 rfl) rfl rfl ?_
    refine a_aload_n K (dq 10 rfl) rfl rfl ?_
    refine a_get K (T := 0) (i := 0) (k := 9) (v := .ref (ρ 14 0)) v_0 rfl rfl in_X6 (Nat.le_of_ble_eq_true rfl) fl_X6_57 rfl (dq 11 rfl) ?_
    obtain ⟨r5, h5, h⟩ := bnd h
    refine a_callVi K (s_X5_farms S   σ r5 h5) v_14 rfl rfl cw_X5_farms ml_X6_126 (by decide) rfl (rest := [.int v3]) rfl (Nat.le_of_ble_eq_true rfl) (dq 12 rfl) (by decide) ?_
    refine a_icmp_ge K (tgt := 91) (dq 13 rfl) rfl (fun c6 => ?_) (fun c6 => ?_)
    · have h := ite_t c6 h
      refine a_aload_n K (dq 43 rfl) rfl rfl ?_
      refine a_get K (T := 0) (i := 0) (k := 8) (v := .ref (ρ 12 0)) v_0 rfl rfl in_X6 (Nat.le_of_ble_eq_true rfl) fl_X6_50 rfl (dq 44 rfl) ?_
      obtain ⟨r7, h7, h⟩ := bnd h
      refine a_callVi K (s_X2_length S   σ r7 h7) v_12 rfl rfl cw_X2_length ml_X6_242 (by decide) rfl (rest := []) rfl (Nat.le_of_ble_eq_true rfl) (dq 45 rfl) (by decide) ?_
      obtain rfl := Option.some.inj h
      exact a_iret K rfl rfl (dq 46 rfl) (Nat.le_of_ble_eq_true rfl) (Nat.le_of_ble_eq_true rfl) rfl rfl
    · have h := ite_f c6 h
      refine a_iload_n K (dq 14 rfl) rfl rfl ?_
      refine a_if_le K (tgt := 39) (dq 15 rfl) rfl (fun c8 => ?_) (fun c8 => ?_)
      · have h := ite_t c8 h
        refine a_aload_n K (dq 20 rfl) rfl rfl ?_
        refine a_get K (T := 0) (i := 0) (k := 8) (v := .ref (ρ 12 0)) v_0 rfl rfl in_X6 (Nat.le_of_ble_eq_true rfl) fl_X6_50 rfl (dq 21 rfl) ?_
        refine a_aload_n K (dq 22 rfl) rfl rfl ?_
        refine a_get K (T := 0) (i := 0) (k := 9) (v := .ref (ρ 14 0)) v_0 rfl rfl in_X6 (Nat.le_of_ble_eq_true rfl) fl_X6_57 rfl (dq 23 rfl) ?_
        refine a_iload_n K (dq 24 rfl) rfl rfl ?_
        obtain ⟨r9, h9, h⟩ := bnd h
        refine a_callVi K (s_X5_farmAt S v3  σ r9 h9) v_14 rfl rfl cw_X5_farmAt ml_X6_123 (by decide) rfl (rest := [.ref (ρ 12 0)]) rfl (Nat.le_of_ble_eq_true rfl) (dq 25 rfl) (by decide) ?_
        obtain ⟨r10, h10, h⟩ := bnd h
        refine a_callVv K (s_X2_writeNumber S r9  σ r10 h10) v_12 rfl rfl cw_X2_writeNumber ml_X6_239 (by decide) rfl (rest := []) rfl (Nat.le_of_ble_eq_true rfl) (dq 26 rfl) (by decide) ?_
        refine a_aload_n K (dq 27 rfl) rfl rfl ?_
        refine a_get K (T := 0) (i := 0) (k := 8) (v := .ref (ρ 12 0)) v_0 rfl rfl in_X6 (Nat.le_of_ble_eq_true rfl) fl_X6_50 rfl (dq 28 rfl) ?_
        refine a_bipush K (dq 29 rfl) (v := 36) rfl ?_
        obtain ⟨r11, h11, h⟩ := bnd h
        refine a_callVv K (s_X2_write S 36  r10 r11 h11) v_12 rfl rfl cw_X2_write ml_X6_236 (by decide) rfl (rest := []) rfl (Nat.le_of_ble_eq_true rfl) (dq 30 rfl) (by decide) ?_
        refine a_aload_n K (dq 31 rfl) rfl rfl ?_
        refine a_get K (T := 0) (i := 0) (k := 8) (v := .ref (ρ 12 0)) v_0 rfl rfl in_X6 (Nat.le_of_ble_eq_true rfl) fl_X6_50 rfl (dq 32 rfl) ?_
        refine a_aload_n K (dq 33 rfl) rfl rfl ?_
        refine a_get K (T := 0) (i := 0) (k := 0) (v := .ref (ρ 1 0)) v_0 rfl rfl in_X6 (Nat.le_of_ble_eq_true rfl) fl_X6_10 rfl (dq 34 rfl) ?_
        refine a_aload_n K (dq 35 rfl) rfl rfl ?_
        refine a_get K (T := 0) (i := 0) (k := 9) (v := .ref (ρ 14 0)) v_0 rfl rfl in_X6 (Nat.le_of_ble_eq_true rfl) fl_X6_57 rfl (dq 36 rfl) ?_
        refine a_iload_n K (dq 37 rfl) rfl rfl ?_
        obtain ⟨r12, h12, h⟩ := bnd h
        refine a_callVi K (s_X5_farmAt S v3  r11 r12 h12) v_14 rfl rfl cw_X5_farmAt ml_X6_123 (by decide) rfl (rest := [.ref (ρ 1 0), .ref (ρ 12 0)]) rfl (Nat.le_of_ble_eq_true rfl) (dq 38 rfl) (by decide) ?_
        obtain ⟨r13, h13, h⟩ := bnd h
        refine a_callVi K (s_X1_tollOf S r12  r11 r13 h13) v_1 rfl rfl cw_X1_tollOf ml_X6_73 (by decide) rfl (rest := [.ref (ρ 12 0)]) rfl (Nat.le_of_ble_eq_true rfl) (dq 39 rfl) (by decide) ?_
        obtain ⟨r14, h14, h⟩ := bnd h
        refine a_callVv K (s_X2_writeNumber S r13  r11 r14 h14) v_12 rfl rfl cw_X2_writeNumber ml_X6_239 (by decide) rfl (rest := []) rfl (Nat.le_of_ble_eq_true rfl) (dq 40 rfl) (by decide) ?_
        refine a_iinc K (dq 41 rfl) rfl (v := (v3 + 1)) rfl (Nat.le_of_ble_eq_true rfl) (ls' := [some (.ref (ρ 0 0)), none, none, some (.int (v3 + 1))]) rfl ?_
        refine a_goto K (tgt := 15) (dq 42 rfl) rfl ?_
        exact ih (v3 + 1) r14 r h K hX
      · have h := ite_f c8 h
        refine a_aload_n K (dq 16 rfl) rfl rfl ?_
        refine a_get K (T := 0) (i := 0) (k := 8) (v := .ref (ρ 12 0)) v_0 rfl rfl in_X6 (Nat.le_of_ble_eq_true rfl) fl_X6_50 rfl (dq 17 rfl) ?_
        refine a_bipush K (dq 18 rfl) (v := 62) rfl ?_
        obtain ⟨r15, h15, h⟩ := bnd h
        refine a_callVv K (s_X2_write S 62  σ r15 h15) v_12 rfl rfl cw_X2_write ml_X6_236 (by decide) rfl (rest := []) rfl (Nat.le_of_ble_eq_true rfl) (dq 19 rfl) (by decide) ?_
        refine a_aload_n K (dq 20 rfl) rfl rfl ?_
        refine a_get K (T := 0) (i := 0) (k := 8) (v := .ref (ρ 12 0)) v_0 rfl rfl in_X6 (Nat.le_of_ble_eq_true rfl) fl_X6_50 rfl (dq 21 rfl) ?_
        refine a_aload_n K (dq 22 rfl) rfl rfl ?_
        refine a_get K (T := 0) (i := 0) (k := 9) (v := .ref (ρ 14 0)) v_0 rfl rfl in_X6 (Nat.le_of_ble_eq_true rfl) fl_X6_57 rfl (dq 23 rfl) ?_
        refine a_iload_n K (dq 24 rfl) rfl rfl ?_
        obtain ⟨r16, h16, h⟩ := bnd h
        refine a_callVi K (s_X5_farmAt S v3  r15 r16 h16) v_14 rfl rfl cw_X5_farmAt ml_X6_123 (by decide) rfl (rest := [.ref (ρ 12 0)]) rfl (Nat.le_of_ble_eq_true rfl) (dq 25 rfl) (by decide) ?_
        obtain ⟨r17, h17, h⟩ := bnd h
        refine a_callVv K (s_X2_writeNumber S r16  r15 r17 h17) v_12 rfl rfl cw_X2_writeNumber ml_X6_239 (by decide) rfl (rest := []) rfl (Nat.le_of_ble_eq_true rfl) (dq 26 rfl) (by decide) ?_
        refine a_aload_n K (dq 27 rfl) rfl rfl ?_
        refine a_get K (T := 0) (i := 0) (k := 8) (v := .ref (ρ 12 0)) v_0 rfl rfl in_X6 (Nat.le_of_ble_eq_true rfl) fl_X6_50 rfl (dq 28 rfl) ?_
        refine a_bipush K (dq 29 rfl) (v := 36) rfl ?_
        obtain ⟨r18, h18, h⟩ := bnd h
        refine a_callVv K (s_X2_write S 36  r17 r18 h18) v_12 rfl rfl cw_X2_write ml_X6_236 (by decide) rfl (rest := []) rfl (Nat.le_of_ble_eq_true rfl) (dq 30 rfl) (by decide) ?_
        refine a_aload_n K (dq 31 rfl) rfl rfl ?_
        refine a_get K (T := 0) (i := 0) (k := 8) (v := .ref (ρ 12 0)) v_0 rfl rfl in_X6 (Nat.le_of_ble_eq_true rfl) fl_X6_50 rfl (dq 32 rfl) ?_
        refine a_aload_n K (dq 33 rfl) rfl rfl ?_
        refine a_get K (T := 0) (i := 0) (k := 0) (v := .ref (ρ 1 0)) v_0 rfl rfl in_X6 (Nat.le_of_ble_eq_true rfl) fl_X6_10 rfl (dq 34 rfl) ?_
        refine a_aload_n K (dq 35 rfl) rfl rfl ?_
        refine a_get K (T := 0) (i := 0) (k := 9) (v := .ref (ρ 14 0)) v_0 rfl rfl in_X6 (Nat.le_of_ble_eq_true rfl) fl_X6_57 rfl (dq 36 rfl) ?_
        refine a_iload_n K (dq 37 rfl) rfl rfl ?_
        obtain ⟨r19, h19, h⟩ := bnd h
        refine a_callVi K (s_X5_farmAt S v3  r18 r19 h19) v_14 rfl rfl cw_X5_farmAt ml_X6_123 (by decide) rfl (rest := [.ref (ρ 1 0), .ref (ρ 12 0)]) rfl (Nat.le_of_ble_eq_true rfl) (dq 38 rfl) (by decide) ?_
        obtain ⟨r20, h20, h⟩ := bnd h
        refine a_callVi K (s_X1_tollOf S r19  r18 r20 h20) v_1 rfl rfl cw_X1_tollOf ml_X6_73 (by decide) rfl (rest := [.ref (ρ 12 0)]) rfl (Nat.le_of_ble_eq_true rfl) (dq 39 rfl) (by decide) ?_
        obtain ⟨r21, h21, h⟩ := bnd h
        refine a_callVv K (s_X2_writeNumber S r20  r18 r21 h21) v_12 rfl rfl cw_X2_writeNumber ml_X6_239 (by decide) rfl (rest := []) rfl (Nat.le_of_ble_eq_true rfl) (dq 40 rfl) (by decide) ?_
        refine a_iinc K (dq 41 rfl) rfl (v := (v3 + 1)) rfl (Nat.le_of_ble_eq_true rfl) (ls' := [some (.ref (ρ 0 0)), none, none, some (.int (v3 + 1))]) rfl ?_
        refine a_goto K (tgt := 15) (dq 42 rfl) rfl ?_
        exact ih (v3 + 1) r21 r h K hX
set_option maxRecDepth 20000 in
set_option maxHeartbeats 1000000 in
theorem s_X6_way {l : Launch} {D : va_G} {ty : Nat → ClassId} {ρ : Nat → Nat → Nat} {N0 : Nat} (S : St l ty ρ N0) (a1 : Int32) (a2 : Int32)  (σ : Sg) (r : ((Int32 ⊕ String) × Sg)) (h : p_X6_way a1 a2 σ = some r) : AMet l D ty ρ N0 yX6_way (Cond.code yX6_way cX6_way 4 (some .int) :: GW) (rmk 4 3 18) [.ref (ρ 0 0), .int a1, .int a2] σ (oT r.1) r.2 := by
  refine am_enter S (by decide) rfl rfl (Nat.le_of_ble_eq_true rfl) ?_
  intro p e s m args below meth c K hX
  have dq := @tat _ _ dt_X6_way
  unfold p_X6_way at h
  show WA p l e _ s m args below meth c D ty ρ N0 4 _ 0 [some (.ref (ρ 0 0)), some (.int a1), some (.int a2), none] [] σ 0 0
  refine a_aload_n K (dq 0 rfl) rfl rfl ?_
  refine a_iload_n K (dq 1 rfl) rfl rfl ?_
  refine a_iload_n K (dq 2 rfl) rfl rfl ?_
  obtain ⟨r1, h1, h⟩ := bnd h
  refine a_callVvt K (s_X6_followWay S a1 a2  σ r1 h1) v_0 rfl rfl cw_X6_followWay ml_X6_102 (by decide) rfl (rest := []) rfl (Nat.le_of_ble_eq_true rfl) (dq 3 rfl) (by decide) (fun x2 hx2 => ?_) (fun E3 hE3 => ?_)
  · have h := sm_l hx2 h
    refine a_aload_n K (dq 4 rfl) rfl rfl ?_
    refine a_get K (T := 0) (i := 0) (k := 8) (v := .ref (ρ 12 0)) v_0 rfl rfl in_X6 (Nat.le_of_ble_eq_true rfl) fl_X6_50 rfl (dq 5 rfl) ?_
    obtain ⟨r4, h4, h⟩ := bnd h
    refine a_callVv K (s_X2_clear S   r1.2 r4 h4) v_12 rfl rfl cw_X2_clear ml_X6_235 (by decide) rfl (rest := []) rfl (Nat.le_of_ble_eq_true rfl) (dq 6 rfl) (by decide) ?_
    refine a_iconst K (dq 7 rfl) (v := 0) rfl ?_
    refine a_istore_n K (dq 8 rfl) rfl (Nat.le_of_ble_eq_true rfl) (ls' := [some (.ref (ρ 0 0)), some (.int a1), some (.int a2), some (.int 0)]) rfl ?_
    refine a_le2 (ls' := [some (.ref (ρ 0 0)), none, none, some (.int 0)]) ⟨rfl, rfl, trivial⟩ ?_
    exact s_X6_way_L15 S    400 0 r4 r h K hX
  · have h := sm_r hE3 h
    obtain rfl := Option.some.inj h
    exact a_out K hX (Nat.le_of_ble_eq_true rfl) (Nat.le_of_ble_eq_true rfl) rfl rfl
def t_X6_character : List (Nat × Instr × Nat) := [(0, .iload_n 1, 1), (1, .ifCond .lt 14, 3), (4, .iload_n 1, 1), (5, .aload_n 0, 1), (6, .getfield 50, 3), (9, .invokevirtual 242, 3), (12, .if_icmp .lt 13, 3), (15, .new 168, 3), (18, .dup, 1), (19, .ldc 247, 2), (21, .invokespecial 172, 3), (24, .athrow, 1), (25, .aload_n 0, 1), (26, .getfield 50, 3), (29, .iload_n 1, 1), (30, .invokevirtual 249, 3), (33, .ireturn, 1)]
theorem dt_X6_character : tblOK cX6_character t_X6_character = true := by decide +kernel
def p_X6_character (a1 : Int32) (σ : Sg) : Option ((Int32 ⊕ String) × Sg) :=
  if a1 < 0 then (some (.inr "java/lang/IndexOutOfBoundsException", σ)) else ((p_X2_length  σ).bind fun r2 => if a1 < r2 then ((p_X2_at a1 σ).bind fun r4 => some (.inl (nch r4), σ)) else (some (.inr "java/lang/IndexOutOfBoundsException", σ)))
set_option maxRecDepth 20000 in
set_option maxHeartbeats 1000000 in
theorem s_X6_character {l : Launch} {D : va_G} {ty : Nat → ClassId} {ρ : Nat → Nat → Nat} {N0 : Nat} (S : St l ty ρ N0) (a1 : Int32)  (σ : Sg) (r : ((Int32 ⊕ String) × Sg)) (h : p_X6_character a1 σ = some r) : AMet l D ty ρ N0 yX6_character (Cond.code yX6_character cX6_character 2 (some .char) :: GW) (rmk 2 1 6) [.ref (ρ 0 0), .int a1] σ (oT r.1) r.2 := by
  refine am_enter S (by decide) rfl rfl (Nat.le_of_ble_eq_true rfl) ?_
  intro p e s m args below meth c K hX
  have dq := @tat _ _ dt_X6_character
  unfold p_X6_character at h
  show WA p l e _ s m args below meth c D ty ρ N0 2 _ 0 [some (.ref (ρ 0 0)), some (.int a1)] [] σ 0 0
  refine a_iload_n K (dq 0 rfl) rfl rfl ?_
  refine a_if_lt K (tgt := 15) (dq 1 rfl) rfl (fun c1 => ?_) (fun c1 => ?_)
  · have h := ite_t c1 h
    obtain rfl := Option.some.inj h
    exact a_throwS K hX th_X6_168_247_172 (dq 7 rfl) (dq 8 rfl) (dq 9 rfl) (dq 10 rfl) (dq 11 rfl) (Nat.le_of_ble_eq_true rfl) (Nat.le_of_ble_eq_true rfl) (Nat.le_of_ble_eq_true rfl) (Nat.le_of_ble_eq_true rfl) (Nat.le_of_ble_eq_true rfl) (Nat.le_of_ble_eq_true rfl) rfl rfl
  · have h := ite_f c1 h
    refine a_iload_n K (dq 2 rfl) rfl rfl ?_
    refine a_aload_n K (dq 3 rfl) rfl rfl ?_
    refine a_get K (T := 0) (i := 0) (k := 8) (v := .ref (ρ 12 0)) v_0 rfl rfl in_X6 (Nat.le_of_ble_eq_true rfl) fl_X6_50 rfl (dq 4 rfl) ?_
    obtain ⟨r2, h2, h⟩ := bnd h
    refine a_callVi K (s_X2_length S   σ r2 h2) v_12 rfl rfl cw_X2_length ml_X6_242 (by decide) rfl (rest := [.int a1]) rfl (Nat.le_of_ble_eq_true rfl) (dq 5 rfl) (by decide) ?_
    refine a_icmp_lt K (tgt := 25) (dq 6 rfl) rfl (fun c3 => ?_) (fun c3 => ?_)
    · have h := ite_t c3 h
      refine a_aload_n K (dq 12 rfl) rfl rfl ?_
      refine a_get K (T := 0) (i := 0) (k := 8) (v := .ref (ρ 12 0)) v_0 rfl rfl in_X6 (Nat.le_of_ble_eq_true rfl) fl_X6_50 rfl (dq 13 rfl) ?_
      refine a_iload_n K (dq 14 rfl) rfl rfl ?_
      obtain ⟨r4, h4, h⟩ := bnd h
      refine a_callVi K (s_X2_at S a1  σ r4 h4) v_12 rfl rfl cw_X2_at ml_X6_249 (by decide) rfl (rest := []) rfl (Nat.le_of_ble_eq_true rfl) (dq 15 rfl) (by decide) ?_
      obtain rfl := Option.some.inj h
      exact a_iret K rfl rfl (dq 16 rfl) (Nat.le_of_ble_eq_true rfl) (Nat.le_of_ble_eq_true rfl) rfl rfl
    · have h := ite_f c3 h
      obtain rfl := Option.some.inj h
      exact a_throwS K hX th_X6_168_247_172 (dq 7 rfl) (dq 8 rfl) (dq 9 rfl) (dq 10 rfl) (dq 11 rfl) (Nat.le_of_ble_eq_true rfl) (Nat.le_of_ble_eq_true rfl) (Nat.le_of_ble_eq_true rfl) (Nat.le_of_ble_eq_true rfl) (Nat.le_of_ble_eq_true rfl) (Nat.le_of_ble_eq_true rfl) rfl rfl
def t_X6_meanToll : List (Nat × Instr × Nat) := [(0, .aload_n 0, 1), (1, .getfield 10, 3), (4, .invokevirtual 152, 3), (7, .istore_n 1, 1), (8, .iload_n 1, 1), (9, .ifCond .ne 13, 3), (12, .new 253, 3), (15, .dup, 1), (16, .ldc 255, 2), (18, .invokespecial 257, 3), (21, .athrow, 1), (22, .aload_n 0, 1), (23, .getfield 10, 3), (26, .invokevirtual 258, 3), (29, .i2f, 1), (30, .iload_n 1, 1), (31, .i2f, 1), (32, .fdiv, 1), (33, .invokestatic 261, 3), (36, .ireturn, 1)]
theorem dt_X6_meanToll : tblOK cX6_meanToll t_X6_meanToll = true := by decide +kernel
def p_X6_meanToll  (σ : Sg) : Option ((Int32 ⊕ String) × Sg) :=
  (p_X1_farms  σ).bind fun r1 => if r1 = 0 then (some (.inr "java/lang/ArithmeticException", σ)) else ((p_X1_allTolls  σ).bind fun r3 => if nn32 (FP.fdiv (FP.i2f r3) (FP.i2f r1)) then ((p_X6_bitsOf (FP.fdiv (FP.i2f r3) (FP.i2f r1)) σ).bind fun r5 => some (.inl r5, σ)) else none)
set_option maxRecDepth 20000 in
set_option maxHeartbeats 1000000 in
theorem s_X6_meanToll {l : Launch} {D : va_G} {ty : Nat → ClassId} {ρ : Nat → Nat → Nat} {N0 : Nat} (S : St l ty ρ N0)   (σ : Sg) (r : ((Int32 ⊕ String) × Sg)) (h : p_X6_meanToll  σ = some r) : AMet l D ty ρ N0 yX6_meanToll (Cond.code yX6_meanToll cX6_meanToll 2 (some .int) :: GW) (rmk 3 1 6) [.ref (ρ 0 0)] σ (oT r.1) r.2 := by
  refine am_enter S (by decide) rfl rfl (Nat.le_of_ble_eq_true rfl) ?_
  intro p e s m args below meth c K hX
  have dq := @tat _ _ dt_X6_meanToll
  unfold p_X6_meanToll at h
  show WA p l e _ s m args below meth c D ty ρ N0 2 _ 0 [some (.ref (ρ 0 0)), none] [] σ 0 0
  refine a_aload_n K (dq 0 rfl) rfl rfl ?_
  refine a_get K (T := 0) (i := 0) (k := 0) (v := .ref (ρ 1 0)) v_0 rfl rfl in_X6 (Nat.le_of_ble_eq_true rfl) fl_X6_10 rfl (dq 1 rfl) ?_
  obtain ⟨r1, h1, h⟩ := bnd h
  refine a_callVi K (s_X1_farms S   σ r1 h1) v_1 rfl rfl cw_X1_farms ml_X6_152 (by decide) rfl (rest := []) rfl (Nat.le_of_ble_eq_true rfl) (dq 2 rfl) (by decide) ?_
  refine a_istore_n K (dq 3 rfl) rfl (Nat.le_of_ble_eq_true rfl) (ls' := [some (.ref (ρ 0 0)), some (.int r1)]) rfl ?_
  refine a_iload_n K (dq 4 rfl) rfl rfl ?_
  refine a_if_ne K (tgt := 22) (dq 5 rfl) rfl (fun c2 => ?_) (fun c2 => ?_)
  · have h := ite_f c2 h
    refine a_aload_n K (dq 11 rfl) rfl rfl ?_
    refine a_get K (T := 0) (i := 0) (k := 0) (v := .ref (ρ 1 0)) v_0 rfl rfl in_X6 (Nat.le_of_ble_eq_true rfl) fl_X6_10 rfl (dq 12 rfl) ?_
    obtain ⟨r3, h3, h⟩ := bnd h
    refine a_callVi K (s_X1_allTolls S   σ r3 h3) v_1 rfl rfl cw_X1_allTolls ml_X6_258 (by decide) rfl (rest := []) rfl (Nat.le_of_ble_eq_true rfl) (dq 13 rfl) (by decide) ?_
    refine a_i2f K (dq 14 rfl) ?_
    refine a_iload_n K (dq 15 rfl) rfl rfl ?_
    refine a_i2f K (dq 16 rfl) ?_
    obtain ⟨c4, h⟩ := nn32_some h
    refine a_fdiv K (dq 17 rfl) c4 ?_
    obtain ⟨r5, h5, h⟩ := bnd h
    refine a_callSi K (s_X6_bitsOf S (FP.fdiv (FP.i2f r3) (FP.i2f r1))  σ r5 h5) cw_X6_bitsOf ml_X6_261 (by decide) rfl (rest := []) rfl (Nat.le_of_ble_eq_true rfl) (dq 18 rfl) (by decide) ?_
    obtain rfl := Option.some.inj h
    exact a_iret K rfl rfl (dq 19 rfl) (Nat.le_of_ble_eq_true rfl) (Nat.le_of_ble_eq_true rfl) rfl rfl
  · have h := ite_t c2 h
    obtain rfl := Option.some.inj h
    exact a_throwS K hX th_X6_253_255_257 (dq 6 rfl) (dq 7 rfl) (dq 8 rfl) (dq 9 rfl) (dq 10 rfl) (Nat.le_of_ble_eq_true rfl) (Nat.le_of_ble_eq_true rfl) (Nat.le_of_ble_eq_true rfl) (Nat.le_of_ble_eq_true rfl) (Nat.le_of_ble_eq_true rfl) (Nat.le_of_ble_eq_true rfl) rfl rfl
def t_X6_paidShare : List (Nat × Instr × Nat) := [(0, .aload_n 0, 1), (1, .getfield 10, 3), (4, .invokevirtual 265, 3), (7, .istore_n 1, 1), (8, .iload_n 1, 1), (9, .ifCond .ne 14, 3), (12, .new 253, 3), (15, .dup, 1), (16, .ldc_w 268, 3), (19, .invokespecial 257, 3), (22, .athrow, 1), (23, .aload_n 0, 1), (24, .getfield 10, 3), (27, .invokevirtual 270, 3), (30, .i2d, 1), (31, .iload_n 1, 1), (32, .i2d, 1), (33, .ddiv, 1), (34, .dreturn, 1)]
theorem dt_X6_paidShare : tblOK cX6_paidShare t_X6_paidShare = true := by decide +kernel
def p_X6_paidShare  (σ : Sg) : Option ((UInt64 ⊕ String) × Sg) :=
  (p_X1_drives  σ).bind fun r1 => if r1 = 0 then (some (.inr "java/lang/ArithmeticException", σ)) else ((p_X1_paid  σ).bind fun r3 => if nn64 (FP.ddiv (FP.i2d r3) (FP.i2d r1)) then (some (.inl (FP.ddiv (FP.i2d r3) (FP.i2d r1)), σ)) else none)
set_option maxRecDepth 20000 in
set_option maxHeartbeats 1000000 in
theorem s_X6_paidShare {l : Launch} {D : va_G} {ty : Nat → ClassId} {ρ : Nat → Nat → Nat} {N0 : Nat} (S : St l ty ρ N0)   (σ : Sg) (r : ((UInt64 ⊕ String) × Sg)) (h : p_X6_paidShare  σ = some r) : AMet l D ty ρ N0 yX6_paidShare (Cond.code yX6_paidShare cX6_paidShare 2 (some .double) :: GW) (rmk 2 1 6) [.ref (ρ 0 0)] σ (oD r.1) r.2 := by
  refine am_enter S (by decide) rfl rfl (Nat.le_of_ble_eq_true rfl) ?_
  intro p e s m args below meth c K hX
  have dq := @tat _ _ dt_X6_paidShare
  unfold p_X6_paidShare at h
  show WA p l e _ s m args below meth c D ty ρ N0 2 _ 0 [some (.ref (ρ 0 0)), none] [] σ 0 0
  refine a_aload_n K (dq 0 rfl) rfl rfl ?_
  refine a_get K (T := 0) (i := 0) (k := 0) (v := .ref (ρ 1 0)) v_0 rfl rfl in_X6 (Nat.le_of_ble_eq_true rfl) fl_X6_10 rfl (dq 1 rfl) ?_
  obtain ⟨r1, h1, h⟩ := bnd h
  refine a_callVi K (s_X1_drives S   σ r1 h1) v_1 rfl rfl cw_X1_drives ml_X6_265 (by decide) rfl (rest := []) rfl (Nat.le_of_ble_eq_true rfl) (dq 2 rfl) (by decide) ?_
  refine a_istore_n K (dq 3 rfl) rfl (Nat.le_of_ble_eq_true rfl) (ls' := [some (.ref (ρ 0 0)), some (.int r1)]) rfl ?_
  refine a_iload_n K (dq 4 rfl) rfl rfl ?_
  refine a_if_ne K (tgt := 23) (dq 5 rfl) rfl (fun c2 => ?_) (fun c2 => ?_)
  · have h := ite_f c2 h
    refine a_aload_n K (dq 11 rfl) rfl rfl ?_
    refine a_get K (T := 0) (i := 0) (k := 0) (v := .ref (ρ 1 0)) v_0 rfl rfl in_X6 (Nat.le_of_ble_eq_true rfl) fl_X6_10 rfl (dq 12 rfl) ?_
    obtain ⟨r3, h3, h⟩ := bnd h
    refine a_callVi K (s_X1_paid S   σ r3 h3) v_1 rfl rfl cw_X1_paid ml_X6_270 (by decide) rfl (rest := []) rfl (Nat.le_of_ble_eq_true rfl) (dq 13 rfl) (by decide) ?_
    refine a_i2d K (dq 14 rfl) ?_
    refine a_iload_n K (dq 15 rfl) rfl rfl ?_
    refine a_i2d K (dq 16 rfl) ?_
    obtain ⟨c4, h⟩ := nn64_some h
    refine a_ddiv K (dq 17 rfl) c4 ?_
    obtain rfl := Option.some.inj h
    exact a_dret K rfl (dq 18 rfl) (Nat.le_of_ble_eq_true rfl) (Nat.le_of_ble_eq_true rfl) rfl rfl
  · have h := ite_t c2 h
    obtain rfl := Option.some.inj h
    exact a_throwW K hX th_X6_253_268_257 (dq 6 rfl) (dq 7 rfl) (dq 8 rfl) (dq 9 rfl) (dq 10 rfl) (Nat.le_of_ble_eq_true rfl) (Nat.le_of_ble_eq_true rfl) (Nat.le_of_ble_eq_true rfl) (Nat.le_of_ble_eq_true rfl) (Nat.le_of_ble_eq_true rfl) (Nat.le_of_ble_eq_true rfl) rfl rfl
def t_X6_account : List (Nat × Instr × Nat) := [(0, .iload_n 1, 1), (1, .tableswitch 140 0 9 #[55, 63, 76, 84, 92, 100, 108, 116, 124, 132], 55), (56, .aload_n 0, 1), (57, .getfield 10, 3), (60, .invokevirtual 152, 3), (63, .ireturn, 1), (64, .aload_n 0, 1), (65, .getfield 10, 3), (68, .invokevirtual 152, 3), (71, .aload_n 0, 1), (72, .invokevirtual 273, 3), (75, .isub, 1), (76, .ireturn, 1), (77, .aload_n 0, 1), (78, .getfield 10, 3), (81, .invokevirtual 258, 3), (84, .ireturn, 1), (85, .aload_n 0, 1), (86, .getfield 10, 3), (89, .invokevirtual 276, 3), (92, .ireturn, 1), (93, .aload_n 0, 1), (94, .getfield 10, 3), (97, .invokevirtual 279, 3), (100, .ireturn, 1), (101, .aload_n 0, 1), (102, .getfield 10, 3), (105, .invokevirtual 282, 3), (108, .ireturn, 1), (109, .aload_n 0, 1), (110, .getfield 10, 3), (113, .invokevirtual 265, 3), (116, .ireturn, 1), (117, .aload_n 0, 1), (118, .getfield 10, 3), (121, .invokevirtual 270, 3), (124, .ireturn, 1), (125, .aload_n 0, 1), (126, .getfield 25, 3), (129, .invokevirtual 285, 3), (132, .ireturn, 1), (133, .aload_n 0, 1), (134, .getfield 39, 3), (137, .invokevirtual 197, 3), (140, .ireturn, 1), (141, .new 95, 3), (144, .dup, 1), (145, .ldc_w 288, 3), (148, .invokespecial 99, 3), (151, .athrow, 1)]
theorem dt_X6_account : tblOK cX6_account t_X6_account = true := by decide +kernel
def p_X6_account (a1 : Int32) (σ : Sg) : Option ((Int32 ⊕ String) × Sg) :=
  if a1 = 0 then ((p_X1_farms  σ).bind fun r2 => some (.inl r2, σ)) else (if a1 = 1 then ((p_X1_farms  σ).bind fun r4 => (p_X6_trees  σ).bind fun r5 => some (.inl (r4 - r5), σ)) else (if a1 = 2 then ((p_X1_allTolls  σ).bind fun r7 => some (.inl r7, σ)) else (if a1 = 3 then ((p_X1_preferring  σ).bind fun r9 => some (.inl r9, σ)) else (if a1 = 4 then ((p_X1_changedByExposing  σ).bind fun r11 => some (.inl r11, σ)) else (if a1 = 5 then ((p_X1_exposings  σ).bind fun r13 => some (.inl r13, σ)) else (if a1 = 6 then ((p_X1_drives  σ).bind fun r15 => some (.inl r15, σ)) else (if a1 = 7 then ((p_X1_paid  σ).bind fun r17 => some (.inl r17, σ)) else (if a1 = 8 then ((p_X0_count  σ).bind fun r19 => some (.inl r19, σ)) else (if a1 = 9 then ((p_X4_length  σ).bind fun r21 => some (.inl r21, σ)) else (some (.inr "java/lang/IllegalArgumentException", σ)))))))))))
set_option maxRecDepth 20000 in
set_option maxHeartbeats 1000000 in
theorem s_X6_account {l : Launch} {D : va_G} {ty : Nat → ClassId} {ρ : Nat → Nat → Nat} {N0 : Nat} (S : St l ty ρ N0) (a1 : Int32)  (σ : Sg) (r : ((Int32 ⊕ String) × Sg)) (h : p_X6_account a1 σ = some r) : AMet l D ty ρ N0 yX6_account (Cond.code yX6_account cX6_account 2 (some .int) :: GW) (rmk 3 1 6) [.ref (ρ 0 0), .int a1] σ (oT r.1) r.2 := by
  refine am_enter S (by decide) rfl rfl (Nat.le_of_ble_eq_true rfl) ?_
  intro p e s m args below meth c K hX
  have dq := @tat _ _ dt_X6_account
  unfold p_X6_account at h
  show WA p l e _ s m args below meth c D ty ρ N0 2 _ 0 [some (.ref (ρ 0 0)), some (.int a1)] [] σ 0 0
  refine a_iload_n K (dq 0 rfl) rfl rfl ?_
  by_cases c1 : a1 = 0
  · have h := ite_t c1 h
    refine a_tableIn K (off := 55) (tgt := 56) (dq 1 rfl) (by rw [c1]; decide) (by rw [c1]; decide) (by rw [c1]; rfl) rfl ?_
    refine a_aload_n K (dq 2 rfl) rfl rfl ?_
    refine a_get K (T := 0) (i := 0) (k := 0) (v := .ref (ρ 1 0)) v_0 rfl rfl in_X6 (Nat.le_of_ble_eq_true rfl) fl_X6_10 rfl (dq 3 rfl) ?_
    obtain ⟨r2, h2, h⟩ := bnd h
    refine a_callVi K (s_X1_farms S   σ r2 h2) v_1 rfl rfl cw_X1_farms ml_X6_152 (by decide) rfl (rest := []) rfl (Nat.le_of_ble_eq_true rfl) (dq 4 rfl) (by decide) ?_
    obtain rfl := Option.some.inj h
    exact a_iret K rfl rfl (dq 5 rfl) (Nat.le_of_ble_eq_true rfl) (Nat.le_of_ble_eq_true rfl) rfl rfl
  · have h := ite_f c1 h
    by_cases c3 : a1 = 1
    · have h := ite_t c3 h
      refine a_tableIn K (off := 63) (tgt := 64) (dq 1 rfl) (by rw [c3]; decide) (by rw [c3]; decide) (by rw [c3]; rfl) rfl ?_
      refine a_aload_n K (dq 6 rfl) rfl rfl ?_
      refine a_get K (T := 0) (i := 0) (k := 0) (v := .ref (ρ 1 0)) v_0 rfl rfl in_X6 (Nat.le_of_ble_eq_true rfl) fl_X6_10 rfl (dq 7 rfl) ?_
      obtain ⟨r4, h4, h⟩ := bnd h
      refine a_callVi K (s_X1_farms S   σ r4 h4) v_1 rfl rfl cw_X1_farms ml_X6_152 (by decide) rfl (rest := []) rfl (Nat.le_of_ble_eq_true rfl) (dq 8 rfl) (by decide) ?_
      refine a_aload_n K (dq 9 rfl) rfl rfl ?_
      obtain ⟨r5, h5, h⟩ := bnd h
      refine a_callVi K (s_X6_trees S   σ r5 h5) v_0 rfl rfl cw_X6_trees ml_X6_273 (by decide) rfl (rest := [.int r4]) rfl (Nat.le_of_ble_eq_true rfl) (dq 10 rfl) (by decide) ?_
      refine a_isub K (dq 11 rfl) ?_
      obtain rfl := Option.some.inj h
      exact a_iret K rfl rfl (dq 12 rfl) (Nat.le_of_ble_eq_true rfl) (Nat.le_of_ble_eq_true rfl) rfl rfl
    · have h := ite_f c3 h
      by_cases c6 : a1 = 2
      · have h := ite_t c6 h
        refine a_tableIn K (off := 76) (tgt := 77) (dq 1 rfl) (by rw [c6]; decide) (by rw [c6]; decide) (by rw [c6]; rfl) rfl ?_
        refine a_aload_n K (dq 13 rfl) rfl rfl ?_
        refine a_get K (T := 0) (i := 0) (k := 0) (v := .ref (ρ 1 0)) v_0 rfl rfl in_X6 (Nat.le_of_ble_eq_true rfl) fl_X6_10 rfl (dq 14 rfl) ?_
        obtain ⟨r7, h7, h⟩ := bnd h
        refine a_callVi K (s_X1_allTolls S   σ r7 h7) v_1 rfl rfl cw_X1_allTolls ml_X6_258 (by decide) rfl (rest := []) rfl (Nat.le_of_ble_eq_true rfl) (dq 15 rfl) (by decide) ?_
        obtain rfl := Option.some.inj h
        exact a_iret K rfl rfl (dq 16 rfl) (Nat.le_of_ble_eq_true rfl) (Nat.le_of_ble_eq_true rfl) rfl rfl
      · have h := ite_f c6 h
        by_cases c8 : a1 = 3
        · have h := ite_t c8 h
          refine a_tableIn K (off := 84) (tgt := 85) (dq 1 rfl) (by rw [c8]; decide) (by rw [c8]; decide) (by rw [c8]; rfl) rfl ?_
          refine a_aload_n K (dq 17 rfl) rfl rfl ?_
          refine a_get K (T := 0) (i := 0) (k := 0) (v := .ref (ρ 1 0)) v_0 rfl rfl in_X6 (Nat.le_of_ble_eq_true rfl) fl_X6_10 rfl (dq 18 rfl) ?_
          obtain ⟨r9, h9, h⟩ := bnd h
          refine a_callVi K (s_X1_preferring S   σ r9 h9) v_1 rfl rfl cw_X1_preferring ml_X6_276 (by decide) rfl (rest := []) rfl (Nat.le_of_ble_eq_true rfl) (dq 19 rfl) (by decide) ?_
          obtain rfl := Option.some.inj h
          exact a_iret K rfl rfl (dq 20 rfl) (Nat.le_of_ble_eq_true rfl) (Nat.le_of_ble_eq_true rfl) rfl rfl
        · have h := ite_f c8 h
          by_cases c10 : a1 = 4
          · have h := ite_t c10 h
            refine a_tableIn K (off := 92) (tgt := 93) (dq 1 rfl) (by rw [c10]; decide) (by rw [c10]; decide) (by rw [c10]; rfl) rfl ?_
            refine a_aload_n K (dq 21 rfl) rfl rfl ?_
            refine a_get K (T := 0) (i := 0) (k := 0) (v := .ref (ρ 1 0)) v_0 rfl rfl in_X6 (Nat.le_of_ble_eq_true rfl) fl_X6_10 rfl (dq 22 rfl) ?_
            obtain ⟨r11, h11, h⟩ := bnd h
            refine a_callVi K (s_X1_changedByExposing S   σ r11 h11) v_1 rfl rfl cw_X1_changedByExposing ml_X6_279 (by decide) rfl (rest := []) rfl (Nat.le_of_ble_eq_true rfl) (dq 23 rfl) (by decide) ?_
            obtain rfl := Option.some.inj h
            exact a_iret K rfl rfl (dq 24 rfl) (Nat.le_of_ble_eq_true rfl) (Nat.le_of_ble_eq_true rfl) rfl rfl
          · have h := ite_f c10 h
            by_cases c12 : a1 = 5
            · have h := ite_t c12 h
              refine a_tableIn K (off := 100) (tgt := 101) (dq 1 rfl) (by rw [c12]; decide) (by rw [c12]; decide) (by rw [c12]; rfl) rfl ?_
              refine a_aload_n K (dq 25 rfl) rfl rfl ?_
              refine a_get K (T := 0) (i := 0) (k := 0) (v := .ref (ρ 1 0)) v_0 rfl rfl in_X6 (Nat.le_of_ble_eq_true rfl) fl_X6_10 rfl (dq 26 rfl) ?_
              obtain ⟨r13, h13, h⟩ := bnd h
              refine a_callVi K (s_X1_exposings S   σ r13 h13) v_1 rfl rfl cw_X1_exposings ml_X6_282 (by decide) rfl (rest := []) rfl (Nat.le_of_ble_eq_true rfl) (dq 27 rfl) (by decide) ?_
              obtain rfl := Option.some.inj h
              exact a_iret K rfl rfl (dq 28 rfl) (Nat.le_of_ble_eq_true rfl) (Nat.le_of_ble_eq_true rfl) rfl rfl
            · have h := ite_f c12 h
              by_cases c14 : a1 = 6
              · have h := ite_t c14 h
                refine a_tableIn K (off := 108) (tgt := 109) (dq 1 rfl) (by rw [c14]; decide) (by rw [c14]; decide) (by rw [c14]; rfl) rfl ?_
                refine a_aload_n K (dq 29 rfl) rfl rfl ?_
                refine a_get K (T := 0) (i := 0) (k := 0) (v := .ref (ρ 1 0)) v_0 rfl rfl in_X6 (Nat.le_of_ble_eq_true rfl) fl_X6_10 rfl (dq 30 rfl) ?_
                obtain ⟨r15, h15, h⟩ := bnd h
                refine a_callVi K (s_X1_drives S   σ r15 h15) v_1 rfl rfl cw_X1_drives ml_X6_265 (by decide) rfl (rest := []) rfl (Nat.le_of_ble_eq_true rfl) (dq 31 rfl) (by decide) ?_
                obtain rfl := Option.some.inj h
                exact a_iret K rfl rfl (dq 32 rfl) (Nat.le_of_ble_eq_true rfl) (Nat.le_of_ble_eq_true rfl) rfl rfl
              · have h := ite_f c14 h
                by_cases c16 : a1 = 7
                · have h := ite_t c16 h
                  refine a_tableIn K (off := 116) (tgt := 117) (dq 1 rfl) (by rw [c16]; decide) (by rw [c16]; decide) (by rw [c16]; rfl) rfl ?_
                  refine a_aload_n K (dq 33 rfl) rfl rfl ?_
                  refine a_get K (T := 0) (i := 0) (k := 0) (v := .ref (ρ 1 0)) v_0 rfl rfl in_X6 (Nat.le_of_ble_eq_true rfl) fl_X6_10 rfl (dq 34 rfl) ?_
                  obtain ⟨r17, h17, h⟩ := bnd h
                  refine a_callVi K (s_X1_paid S   σ r17 h17) v_1 rfl rfl cw_X1_paid ml_X6_270 (by decide) rfl (rest := []) rfl (Nat.le_of_ble_eq_true rfl) (dq 35 rfl) (by decide) ?_
                  obtain rfl := Option.some.inj h
                  exact a_iret K rfl rfl (dq 36 rfl) (Nat.le_of_ble_eq_true rfl) (Nat.le_of_ble_eq_true rfl) rfl rfl
                · have h := ite_f c16 h
                  by_cases c18 : a1 = 8
                  · have h := ite_t c18 h
                    refine a_tableIn K (off := 124) (tgt := 125) (dq 1 rfl) (by rw [c18]; decide) (by rw [c18]; decide) (by rw [c18]; rfl) rfl ?_
                    refine a_aload_n K (dq 37 rfl) rfl rfl ?_
                    refine a_get K (T := 0) (i := 0) (k := 4) (v := .ref (ρ 6 0)) v_0 rfl rfl in_X6 (Nat.le_of_ble_eq_true rfl) fl_X6_25 rfl (dq 38 rfl) ?_
                    obtain ⟨r19, h19, h⟩ := bnd h
                    refine a_callVi K (s_X0_count S   σ r19 h19) v_6 rfl rfl cw_X0_count ml_X6_285 (by decide) rfl (rest := []) rfl (Nat.le_of_ble_eq_true rfl) (dq 39 rfl) (by decide) ?_
                    obtain rfl := Option.some.inj h
                    exact a_iret K rfl rfl (dq 40 rfl) (Nat.le_of_ble_eq_true rfl) (Nat.le_of_ble_eq_true rfl) rfl rfl
                  · have h := ite_f c18 h
                    by_cases c20 : a1 = 9
                    · have h := ite_t c20 h
                      refine a_tableIn K (off := 132) (tgt := 133) (dq 1 rfl) (by rw [c20]; decide) (by rw [c20]; decide) (by rw [c20]; rfl) rfl ?_
                      refine a_aload_n K (dq 41 rfl) rfl rfl ?_
                      refine a_get K (T := 0) (i := 0) (k := 6) (v := .ref (ρ 9 0)) v_0 rfl rfl in_X6 (Nat.le_of_ble_eq_true rfl) fl_X6_39 rfl (dq 42 rfl) ?_
                      obtain ⟨r21, h21, h⟩ := bnd h
                      refine a_callVi K (s_X4_length S   σ r21 h21) v_9 rfl rfl cw_X4_length ml_X6_197 (by decide) rfl (rest := []) rfl (Nat.le_of_ble_eq_true rfl) (dq 43 rfl) (by decide) ?_
                      obtain rfl := Option.some.inj h
                      exact a_iret K rfl rfl (dq 44 rfl) (Nat.le_of_ble_eq_true rfl) (Nat.le_of_ble_eq_true rfl) rfl rfl
                    · have h := ite_f c20 h
                      refine a_tableD K (tgt := 141) (dq 1 rfl) ?_ rfl ?_
                      · have := i32ne c1 (k := 0) (by decide); have := i32ne c3 (k := 1) (by decide); have := i32ne c6 (k := 2) (by decide); have := i32ne c8 (k := 3) (by decide); have := i32ne c10 (k := 4) (by decide); have := i32ne c12 (k := 5) (by decide); have := i32ne c14 (k := 6) (by decide); have := i32ne c16 (k := 7) (by decide); have := i32ne c18 (k := 8) (by decide); have := i32ne c20 (k := 9) (by decide)
                        have hz : (a1).toInt < 0 ∨ 9 < (a1).toInt := by omega
                        rcases hz with q | q
                        · exact Or.inl q
                        · exact Or.inr (Or.inl q)
                      obtain rfl := Option.some.inj h
                      exact a_throwW K hX th_X6_95_288_99 (dq 45 rfl) (dq 46 rfl) (dq 47 rfl) (dq 48 rfl) (dq 49 rfl) (Nat.le_of_ble_eq_true rfl) (Nat.le_of_ble_eq_true rfl) (Nat.le_of_ble_eq_true rfl) (Nat.le_of_ble_eq_true rfl) (Nat.le_of_ble_eq_true rfl) (Nat.le_of_ble_eq_true rfl) rfl rfl
def t_X6_refusesToLay : List (Nat × Instr × Nat) := [(0, .aload_n 0, 1), (1, .iload_n 1, 1), (2, .invokevirtual 356, 3), (5, .ifCond .ne 11, 3), (8, .aload_n 0, 1), (9, .iload_n 2, 1), (10, .invokevirtual 356, 3), (13, .ifCond .eq 5, 3), (16, .iconst 1, 1), (17, .ireturn, 1), (18, .iload_n 1, 1), (19, .iload_n 2, 1), (20, .if_icmp .ne 13, 3), (23, .aload_n 0, 1), (24, .getfield 32, 3), (27, .iconst 4, 1), (28, .iload_n 1, 1), (29, .invokevirtual 388, 3), (32, .ireturn, 1), (33, .aload_n 0, 1), (34, .getfield 57, 3), (37, .aload_n 0, 1), (38, .getfield 10, 3), (41, .iload_n 1, 1), (42, .iload_n 2, 1), (43, .invokevirtual 145, 3), (46, .aload_n 0, 1), (47, .getfield 57, 3), (50, .invokevirtual 126, 3), (53, .ifCond .le 25, 3), (56, .aload_n 0, 1), (57, .getfield 32, 3), (60, .iconst 5, 1), (61, .aload_n 0, 1), (62, .getfield 57, 3), (65, .invokevirtual 106, 3), (68, .invokevirtual 388, 3), (71, .ifCond .eq 7, 3), (74, .iconst 1, 1), (75, .goto 4, 3), (78, .iconst 0, 1), (79, .ireturn, 1)]
theorem dt_X6_refusesToLay : tblOK cX6_refusesToLay t_X6_refusesToLay = true := by decide +kernel
def p_X6_refusesToLay (a1 : Int32) (a2 : Int32) (σ : Sg) : Option (Int32 × Sg) :=
  (p_X6_refusesFarm a1 σ).bind fun r1 => if r1.1 = 0 then ((p_X6_refusesFarm a2 r1.2).bind fun r3 => if r3.1 = 0 then (if a1 = a2 then ((p_X3_keep 4 a1 r3.2).bind fun r12 => some (nb r12.1, r12.2)) else ((p_X5_follow a1 a2 r3.2).bind fun r6 => (p_X5_farms  r6).bind fun r7 => if r7 ≤ 0 then (some (0, r6)) else ((p_X5_tracks  r6).bind fun r9 => (p_X3_keep 5 r9 r6).bind fun r10 => if r10.1 = 0 then (some (0, r10.2)) else (some (1, r10.2))))) else (some (1, r3.2))) else (some (1, r1.2))
set_option maxRecDepth 20000 in
set_option maxHeartbeats 1000000 in
theorem s_X6_refusesToLay {l : Launch} {D : va_G} {ty : Nat → ClassId} {ρ : Nat → Nat → Nat} {N0 : Nat} (S : St l ty ρ N0) (a1 : Int32) (a2 : Int32)  (σ : Sg) (r : (Int32 × Sg)) (h : p_X6_refusesToLay a1 a2 σ = some r) : AMet l D ty ρ N0 yX6_refusesToLay (Cond.code yX6_refusesToLay cX6_refusesToLay 3 (some .boolean) :: GW) (rmk 3 0 0) [.ref (ρ 0 0), .int a1, .int a2] σ (oI r.1) r.2 := by
  refine am_enter S (by decide) rfl rfl (Nat.le_of_ble_eq_true rfl) ?_
  intro p e s m args below meth c K hX
  have dq := @tat _ _ dt_X6_refusesToLay
  unfold p_X6_refusesToLay at h
  show WA p l e _ s m args below meth c D ty ρ N0 3 _ 0 [some (.ref (ρ 0 0)), some (.int a1), some (.int a2)] [] σ 0 0
  refine a_aload_n K (dq 0 rfl) rfl rfl ?_
  refine a_iload_n K (dq 1 rfl) rfl rfl ?_
  obtain ⟨r1, h1, h⟩ := bnd h
  refine a_callVi K (s_X6_refusesFarm S a1  σ r1 h1) v_0 rfl rfl cw_X6_refusesFarm ml_X6_356 (by decide) rfl (rest := []) rfl (Nat.le_of_ble_eq_true rfl) (dq 2 rfl) (by decide) ?_
  refine a_if_ne K (tgt := 16) (dq 3 rfl) rfl (fun c2 => ?_) (fun c2 => ?_)
  · have h := ite_f c2 h
    refine a_iconst K (dq 8 rfl) (v := 1) rfl ?_
    obtain rfl := Option.some.inj h
    exact a_iret K rfl rfl (dq 9 rfl) (Nat.le_of_ble_eq_true rfl) (Nat.le_of_ble_eq_true rfl) rfl rfl
  · have h := ite_t c2 h
    refine a_aload_n K (dq 4 rfl) rfl rfl ?_
    refine a_iload_n K (dq 5 rfl) rfl rfl ?_
    obtain ⟨r3, h3, h⟩ := bnd h
    refine a_callVi K (s_X6_refusesFarm S a2  r1.2 r3 h3) v_0 rfl rfl cw_X6_refusesFarm ml_X6_356 (by decide) rfl (rest := []) rfl (Nat.le_of_ble_eq_true rfl) (dq 6 rfl) (by decide) ?_
    refine a_if_eq K (tgt := 18) (dq 7 rfl) rfl (fun c4 => ?_) (fun c4 => ?_)
    · have h := ite_t c4 h
      refine a_iload_n K (dq 10 rfl) rfl rfl ?_
      refine a_iload_n K (dq 11 rfl) rfl rfl ?_
      refine a_icmp_ne K (tgt := 33) (dq 12 rfl) rfl (fun c5 => ?_) (fun c5 => ?_)
      · have h := ite_f c5 h
        refine a_aload_n K (dq 19 rfl) rfl rfl ?_
        refine a_get K (T := 0) (i := 0) (k := 9) (v := .ref (ρ 14 0)) v_0 rfl rfl in_X6 (Nat.le_of_ble_eq_true rfl) fl_X6_57 rfl (dq 20 rfl) ?_
        refine a_aload_n K (dq 21 rfl) rfl rfl ?_
        refine a_get K (T := 0) (i := 0) (k := 0) (v := .ref (ρ 1 0)) v_0 rfl rfl in_X6 (Nat.le_of_ble_eq_true rfl) fl_X6_10 rfl (dq 22 rfl) ?_
        refine a_iload_n K (dq 23 rfl) rfl rfl ?_
        refine a_iload_n K (dq 24 rfl) rfl rfl ?_
        obtain ⟨r6, h6, h⟩ := bnd h
        refine a_callVv K (s_X5_follow S a1 a2  r3.2 r6 h6) v_14 rfl rfl cw_X5_follow ml_X6_145 (by decide) rfl (rest := []) rfl (Nat.le_of_ble_eq_true rfl) (dq 25 rfl) (by decide) ?_
        refine a_aload_n K (dq 26 rfl) rfl rfl ?_
        refine a_get K (T := 0) (i := 0) (k := 9) (v := .ref (ρ 14 0)) v_0 rfl rfl in_X6 (Nat.le_of_ble_eq_true rfl) fl_X6_57 rfl (dq 27 rfl) ?_
        obtain ⟨r7, h7, h⟩ := bnd h
        refine a_callVi K (s_X5_farms S   r6 r7 h7) v_14 rfl rfl cw_X5_farms ml_X6_126 (by decide) rfl (rest := []) rfl (Nat.le_of_ble_eq_true rfl) (dq 28 rfl) (by decide) ?_
        refine a_if_le K (tgt := 78) (dq 29 rfl) rfl (fun c8 => ?_) (fun c8 => ?_)
        · have h := ite_t c8 h
          refine a_iconst K (dq 40 rfl) (v := 0) rfl ?_
          obtain rfl := Option.some.inj h
          exact a_iret K rfl rfl (dq 41 rfl) (Nat.le_of_ble_eq_true rfl) (Nat.le_of_ble_eq_true rfl) rfl rfl
        · have h := ite_f c8 h
          refine a_aload_n K (dq 30 rfl) rfl rfl ?_
          refine a_get K (T := 0) (i := 0) (k := 5) (v := .ref (ρ 8 0)) v_0 rfl rfl in_X6 (Nat.le_of_ble_eq_true rfl) fl_X6_32 rfl (dq 31 rfl) ?_
          refine a_iconst K (dq 32 rfl) (v := 5) rfl ?_
          refine a_aload_n K (dq 33 rfl) rfl rfl ?_
          refine a_get K (T := 0) (i := 0) (k := 9) (v := .ref (ρ 14 0)) v_0 rfl rfl in_X6 (Nat.le_of_ble_eq_true rfl) fl_X6_57 rfl (dq 34 rfl) ?_
          obtain ⟨r9, h9, h⟩ := bnd h
          refine a_callVi K (s_X5_tracks S   r6 r9 h9) v_14 rfl rfl cw_X5_tracks ml_X6_106 (by decide) rfl (rest := [.int 5, .ref (ρ 8 0)]) rfl (Nat.le_of_ble_eq_true rfl) (dq 35 rfl) (by decide) ?_
          obtain ⟨r10, h10, h⟩ := bnd h
          refine a_callVi K (s_X3_keep S 5 r9  r6 r10 h10) v_8 rfl rfl cw_X3_keep ml_X6_388 (by decide) rfl (rest := []) rfl (Nat.le_of_ble_eq_true rfl) (dq 36 rfl) (by decide) ?_
          refine a_if_eq K (tgt := 78) (dq 37 rfl) rfl (fun c11 => ?_) (fun c11 => ?_)
          · have h := ite_t c11 h
            refine a_iconst K (dq 40 rfl) (v := 0) rfl ?_
            obtain rfl := Option.some.inj h
            exact a_iret K rfl rfl (dq 41 rfl) (Nat.le_of_ble_eq_true rfl) (Nat.le_of_ble_eq_true rfl) rfl rfl
          · have h := ite_f c11 h
            refine a_iconst K (dq 38 rfl) (v := 1) rfl ?_
            refine a_goto K (tgt := 79) (dq 39 rfl) rfl ?_
            obtain rfl := Option.some.inj h
            exact a_iret K rfl rfl (dq 41 rfl) (Nat.le_of_ble_eq_true rfl) (Nat.le_of_ble_eq_true rfl) rfl rfl
      · have h := ite_t c5 h
        refine a_aload_n K (dq 13 rfl) rfl rfl ?_
        refine a_get K (T := 0) (i := 0) (k := 5) (v := .ref (ρ 8 0)) v_0 rfl rfl in_X6 (Nat.le_of_ble_eq_true rfl) fl_X6_32 rfl (dq 14 rfl) ?_
        refine a_iconst K (dq 15 rfl) (v := 4) rfl ?_
        refine a_iload_n K (dq 16 rfl) rfl rfl ?_
        obtain ⟨r12, h12, h⟩ := bnd h
        refine a_callVi K (s_X3_keep S 4 a1  r3.2 r12 h12) v_8 rfl rfl cw_X3_keep ml_X6_388 (by decide) rfl (rest := []) rfl (Nat.le_of_ble_eq_true rfl) (dq 17 rfl) (by decide) ?_
        obtain rfl := Option.some.inj h
        exact a_iret K rfl rfl (dq 18 rfl) (Nat.le_of_ble_eq_true rfl) (Nat.le_of_ble_eq_true rfl) rfl rfl
    · have h := ite_f c4 h
      refine a_iconst K (dq 8 rfl) (v := 1) rfl ?_
      obtain rfl := Option.some.inj h
      exact a_iret K rfl rfl (dq 9 rfl) (Nat.le_of_ble_eq_true rfl) (Nat.le_of_ble_eq_true rfl) rfl rfl
def t_X6_refusesToCharge : List (Nat × Instr × Nat) := [(0, .aload_n 0, 1), (1, .iload_n 1, 1), (2, .invokevirtual 356, 3), (5, .ifCond .ne 11, 3), (8, .aload_n 0, 1), (9, .iload_n 2, 1), (10, .invokevirtual 356, 3), (13, .ifCond .eq 5, 3), (16, .iconst 1, 1), (17, .ireturn, 1), (18, .iload_n 3, 1), (19, .bipush (-50), 2), (21, .if_icmp .lt 9, 3), (24, .iload_n 3, 1), (25, .bipush 50, 2), (27, .if_icmp .le 13, 3), (30, .aload_n 0, 1), (31, .getfield 32, 3), (34, .iconst 1, 1), (35, .iconst 0, 1), (36, .invokevirtual 388, 3), (39, .ireturn, 1), (40, .aload_n 0, 1), (41, .getfield 57, 3), (44, .aload_n 0, 1), (45, .getfield 10, 3), (48, .iload_n 1, 1), (49, .iload_n 2, 1), (50, .invokevirtual 145, 3), (53, .aload_n 0, 1), (54, .getfield 57, 3), (57, .invokevirtual 126, 3), (60, .ifCond .ne 21, 3), (63, .aload_n 0, 1), (64, .getfield 32, 3), (67, .bipush 7, 2), (69, .aload_n 0, 1), (70, .getfield 10, 3), (73, .iload_n 1, 1), (74, .invokevirtual 153, 3), (77, .invokevirtual 388, 3), (80, .ireturn, 1), (81, .iconst 0, 1), (82, .istore 4, 2), (84, .iload 4, 2), (86, .aload_n 0, 1), (87, .getfield 57, 3), (90, .invokevirtual 126, 3), (93, .if_icmp .ge 49, 3), (96, .aload_n 0, 1), (97, .getfield 57, 3), (100, .iload 4, 2), (102, .invokevirtual 123, 3), (105, .istore 5, 2), (107, .aload_n 0, 1), (108, .getfield 10, 3), (111, .iload 5, 2), (113, .invokevirtual 73, 3), (116, .iload_n 3, 1), (117, .iadd, 1), (118, .invokestatic 390, 3), (121, .ifCond .ne 15, 3), (124, .aload_n 0, 1), (125, .getfield 32, 3), (128, .bipush 9, 2), (130, .iload 5, 2), (132, .invokevirtual 388, 3), (135, .ireturn, 1), (136, .iinc 4 1, 3), (139, .goto (-55), 3), (142, .iconst 0, 1), (143, .ireturn, 1)]
theorem dt_X6_refusesToCharge : tblOK cX6_refusesToCharge t_X6_refusesToCharge = true := by decide +kernel
def p_X6_refusesToCharge_L84  : Nat → Int32 → Int32 → Sg → Option ((Int32 × Sg))
  | 0, _, _, _ => none
  | n + 1, v3, v4, σ => (p_X5_farms  σ).bind fun r11 => if r11 ≤ v4 then (some (0, σ)) else ((p_X5_farmAt v4 σ).bind fun r13 => (p_X1_tollOf r13 σ).bind fun r14 => (p_X6_isToll (r14 + v3) σ).bind fun r15 => if r15 = 0 then ((p_X3_keep 9 r13 σ).bind fun r17 => some (nb r17.1, r17.2)) else (p_X6_refusesToCharge_L84 n v3 (v4 + 1) σ))
def p_X6_refusesToCharge (a1 : Int32) (a2 : Int32) (a3 : Int32) (σ : Sg) : Option (Int32 × Sg) :=
  (p_X6_refusesFarm a1 σ).bind fun r1 => if r1.1 = 0 then ((p_X6_refusesFarm a2 r1.2).bind fun r3 => if r3.1 = 0 then (if a3 < (-50) then ((p_X3_keep 1 0 r3.2).bind fun r6 => some (nb r6.1, r6.2)) else (if a3 ≤ 50 then ((p_X5_follow a1 a2 r3.2).bind fun r8 => (p_X5_farms  r8).bind fun r9 => if r9 = 0 then ((p_X1_treeSizeOf a1 r8).bind fun r18 => (p_X3_keep 7 r18 r8).bind fun r19 => some (nb r19.1, r19.2)) else (p_X6_refusesToCharge_L84 400 a3 0 r8)) else ((p_X3_keep 1 0 r3.2).bind fun r20 => some (nb r20.1, r20.2)))) else (some (1, r3.2))) else (some (1, r1.2))
set_option maxRecDepth 20000 in
set_option maxHeartbeats 1000000 in
theorem s_X6_refusesToCharge_L84 {l : Launch} {D : va_G} {ty : Nat → ClassId} {ρ : Nat → Nat → Nat} {N0 : Nat} (S : St l ty ρ N0)   : ∀ (n : Nat) (v3 : Int32) (v4 : Int32) (σ : Sg) (r : (Int32 × Sg)) (h : p_X6_refusesToCharge_L84  n v3 v4 σ = some r) {p : Program} {e : Env} {s : State} {m : MethodId} {args : Array Value} {below : List Frame} {meth : Method} {c : Code} (K : Cx p l s m args meth c cX6_refusesToCharge 6 RX6 (some .boolean) D ty ρ N0) (hX : ∀ x ∈ c.exceptionTable.toList, False), WA p l e (rmk 4 0 0) s m args below meth c D ty ρ N0 6 (vx_MQ below (oQ D ty ρ N0 (oI r.1) r.2) (oX D ty ρ N0 (oI r.1) r.2) args s 0 0 (fun q => N0 ≤ q)) 84 [some (.ref (ρ 0 0)), none, none, some (.int v3), some (.int v4), none] [] σ 0 0 := by
  intro n
  induction n with
  | zero =>
    intro v3 v4 σ r h
    simp only [p_X6_refusesToCharge_L84] at h
    cases h
  | succ n ih =>
    intro v3 v4 σ r h p e s m args below meth c K hX
    have dq := @tat _ _ dt_X6_refusesToCharge
    rw [p_X6_refusesToCharge_L84] at h
    refine a_iload K (dq 44 rfl) rfl ?_
    refine a_aload_n K (dq 45 rfl) rfl rfl ?_
    refine a_get K (T := 0) (i := 0) (k := 9) (v := .ref (ρ 14 0)) v_0 rfl rfl in_X6 (Nat.le_of_ble_eq_true rfl) fl_X6_57 rfl (dq 46 rfl) ?_
    obtain ⟨r11, h11, h⟩ := bnd h
    refine a_callVi K (s_X5_farms S   σ r11 h11) v_14 rfl rfl cw_X5_farms ml_X6_126 (by decide) rfl (rest := [.int v4]) rfl (Nat.le_of_ble_eq_true rfl) (dq 47 rfl) (by decide) ?_
    refine a_icmp_ge K (tgt := 142) (dq 48 rfl) rfl (fun c12 => ?_) (fun c12 => ?_)
    · have h := ite_t c12 h
      refine a_iconst K (dq 70 rfl) (v := 0) rfl ?_
      obtain rfl := Option.some.inj h
      exact a_iret K rfl rfl (dq 71 rfl) (Nat.le_of_ble_eq_true rfl) (Nat.le_of_ble_eq_true rfl) rfl rfl
    · have h := ite_f c12 h
      refine a_aload_n K (dq 49 rfl) rfl rfl ?_
      refine a_get K (T := 0) (i := 0) (k := 9) (v := .ref (ρ 14 0)) v_0 rfl rfl in_X6 (Nat.le_of_ble_eq_true rfl) fl_X6_57 rfl (dq 50 rfl) ?_
      refine a_iload K (dq 51 rfl) rfl ?_
      obtain ⟨r13, h13, h⟩ := bnd h
      refine a_callVi K (s_X5_farmAt S v4  σ r13 h13) v_14 rfl rfl cw_X5_farmAt ml_X6_123 (by decide) rfl (rest := []) rfl (Nat.le_of_ble_eq_true rfl) (dq 52 rfl) (by decide) ?_
      refine a_istore K (dq 53 rfl) (Nat.le_of_ble_eq_true rfl) (ls' := [some (.ref (ρ 0 0)), none, none, some (.int v3), some (.int v4), some (.int r13)]) rfl ?_
      refine a_aload_n K (dq 54 rfl) rfl rfl ?_
      refine a_get K (T := 0) (i := 0) (k := 0) (v := .ref (ρ 1 0)) v_0 rfl rfl in_X6 (Nat.le_of_ble_eq_true rfl) fl_X6_10 rfl (dq 55 rfl) ?_
      refine a_iload K (dq 56 rfl) rfl ?_
      obtain ⟨r14, h14, h⟩ := bnd h
      refine a_callVi K (s_X1_tollOf S r13  σ r14 h14) v_1 rfl rfl cw_X1_tollOf ml_X6_73 (by decide) rfl (rest := []) rfl (Nat.le_of_ble_eq_true rfl) (dq 57 rfl) (by decide) ?_
      refine a_iload_n K (dq 58 rfl) rfl rfl ?_
      refine a_iadd K (dq 59 rfl) ?_
      obtain ⟨r15, h15, h⟩ := bnd h
      refine a_callSi K (s_X6_isToll S (r14 + v3)  σ r15 h15) cw_X6_isToll ml_X6_390 (by decide) rfl (rest := []) rfl (Nat.le_of_ble_eq_true rfl) (dq 60 rfl) (by decide) ?_
      refine a_if_ne K (tgt := 136) (dq 61 rfl) rfl (fun c16 => ?_) (fun c16 => ?_)
      · have h := ite_f c16 h
        refine a_iinc K (dq 68 rfl) rfl (v := (v4 + 1)) rfl (Nat.le_of_ble_eq_true rfl) (ls' := [some (.ref (ρ 0 0)), none, none, some (.int v3), some (.int (v4 + 1)), some (.int r13)]) rfl ?_
        refine a_goto K (tgt := 84) (dq 69 rfl) rfl ?_
        refine a_le2 (ls' := [some (.ref (ρ 0 0)), none, none, some (.int v3), some (.int (v4 + 1)), none]) ⟨rfl, rfl, rfl, trivial⟩ ?_
        exact ih v3 (v4 + 1) σ r h K hX
      · have h := ite_t c16 h
        refine a_aload_n K (dq 62 rfl) rfl rfl ?_
        refine a_get K (T := 0) (i := 0) (k := 5) (v := .ref (ρ 8 0)) v_0 rfl rfl in_X6 (Nat.le_of_ble_eq_true rfl) fl_X6_32 rfl (dq 63 rfl) ?_
        refine a_bipush K (dq 64 rfl) (v := 9) rfl ?_
        refine a_iload K (dq 65 rfl) rfl ?_
        obtain ⟨r17, h17, h⟩ := bnd h
        refine a_callVi K (s_X3_keep S 9 r13  σ r17 h17) v_8 rfl rfl cw_X3_keep ml_X6_388 (by decide) rfl (rest := []) rfl (Nat.le_of_ble_eq_true rfl) (dq 66 rfl) (by decide) ?_
        obtain rfl := Option.some.inj h
        exact a_iret K rfl rfl (dq 67 rfl) (Nat.le_of_ble_eq_true rfl) (Nat.le_of_ble_eq_true rfl) rfl rfl
set_option maxRecDepth 20000 in
set_option maxHeartbeats 1000000 in
theorem s_X6_refusesToCharge {l : Launch} {D : va_G} {ty : Nat → ClassId} {ρ : Nat → Nat → Nat} {N0 : Nat} (S : St l ty ρ N0) (a1 : Int32) (a2 : Int32) (a3 : Int32)  (σ : Sg) (r : (Int32 × Sg)) (h : p_X6_refusesToCharge a1 a2 a3 σ = some r) : AMet l D ty ρ N0 yX6_refusesToCharge (Cond.code yX6_refusesToCharge cX6_refusesToCharge 6 (some .boolean) :: GW) (rmk 4 0 0) [.ref (ρ 0 0), .int a1, .int a2, .int a3] σ (oI r.1) r.2 := by
  refine am_enter S (by decide) rfl rfl (Nat.le_of_ble_eq_true rfl) ?_
  intro p e s m args below meth c K hX
  have dq := @tat _ _ dt_X6_refusesToCharge
  unfold p_X6_refusesToCharge at h
  show WA p l e _ s m args below meth c D ty ρ N0 6 _ 0 [some (.ref (ρ 0 0)), some (.int a1), some (.int a2), some (.int a3), none, none] [] σ 0 0
  refine a_aload_n K (dq 0 rfl) rfl rfl ?_
  refine a_iload_n K (dq 1 rfl) rfl rfl ?_
  obtain ⟨r1, h1, h⟩ := bnd h
  refine a_callVi K (s_X6_refusesFarm S a1  σ r1 h1) v_0 rfl rfl cw_X6_refusesFarm ml_X6_356 (by decide) rfl (rest := []) rfl (Nat.le_of_ble_eq_true rfl) (dq 2 rfl) (by decide) ?_
  refine a_if_ne K (tgt := 16) (dq 3 rfl) rfl (fun c2 => ?_) (fun c2 => ?_)
  · have h := ite_f c2 h
    refine a_iconst K (dq 8 rfl) (v := 1) rfl ?_
    obtain rfl := Option.some.inj h
    exact a_iret K rfl rfl (dq 9 rfl) (Nat.le_of_ble_eq_true rfl) (Nat.le_of_ble_eq_true rfl) rfl rfl
  · have h := ite_t c2 h
    refine a_aload_n K (dq 4 rfl) rfl rfl ?_
    refine a_iload_n K (dq 5 rfl) rfl rfl ?_
    obtain ⟨r3, h3, h⟩ := bnd h
    refine a_callVi K (s_X6_refusesFarm S a2  r1.2 r3 h3) v_0 rfl rfl cw_X6_refusesFarm ml_X6_356 (by decide) rfl (rest := []) rfl (Nat.le_of_ble_eq_true rfl) (dq 6 rfl) (by decide) ?_
    refine a_if_eq K (tgt := 18) (dq 7 rfl) rfl (fun c4 => ?_) (fun c4 => ?_)
    · have h := ite_t c4 h
      refine a_iload_n K (dq 10 rfl) rfl rfl ?_
      refine a_bipush K (dq 11 rfl) (v := (-50)) rfl ?_
      refine a_icmp_lt K (tgt := 30) (dq 12 rfl) rfl (fun c5 => ?_) (fun c5 => ?_)
      · have h := ite_t c5 h
        refine a_aload_n K (dq 16 rfl) rfl rfl ?_
        refine a_get K (T := 0) (i := 0) (k := 5) (v := .ref (ρ 8 0)) v_0 rfl rfl in_X6 (Nat.le_of_ble_eq_true rfl) fl_X6_32 rfl (dq 17 rfl) ?_
        refine a_iconst K (dq 18 rfl) (v := 1) rfl ?_
        refine a_iconst K (dq 19 rfl) (v := 0) rfl ?_
        obtain ⟨r6, h6, h⟩ := bnd h
        refine a_callVi K (s_X3_keep S 1 0  r3.2 r6 h6) v_8 rfl rfl cw_X3_keep ml_X6_388 (by decide) rfl (rest := []) rfl (Nat.le_of_ble_eq_true rfl) (dq 20 rfl) (by decide) ?_
        obtain rfl := Option.some.inj h
        exact a_iret K rfl rfl (dq 21 rfl) (Nat.le_of_ble_eq_true rfl) (Nat.le_of_ble_eq_true rfl) rfl rfl
      · have h := ite_f c5 h
        refine a_iload_n K (dq 13 rfl) rfl rfl ?_
        refine a_bipush K (dq 14 rfl) (v := 50) rfl ?_
        refine a_icmp_le K (tgt := 40) (dq 15 rfl) rfl (fun c7 => ?_) (fun c7 => ?_)
        · have h := ite_t c7 h
          refine a_aload_n K (dq 22 rfl) rfl rfl ?_
          refine a_get K (T := 0) (i := 0) (k := 9) (v := .ref (ρ 14 0)) v_0 rfl rfl in_X6 (Nat.le_of_ble_eq_true rfl) fl_X6_57 rfl (dq 23 rfl) ?_
          refine a_aload_n K (dq 24 rfl) rfl rfl ?_
          refine a_get K (T := 0) (i := 0) (k := 0) (v := .ref (ρ 1 0)) v_0 rfl rfl in_X6 (Nat.le_of_ble_eq_true rfl) fl_X6_10 rfl (dq 25 rfl) ?_
          refine a_iload_n K (dq 26 rfl) rfl rfl ?_
          refine a_iload_n K (dq 27 rfl) rfl rfl ?_
          obtain ⟨r8, h8, h⟩ := bnd h
          refine a_callVv K (s_X5_follow S a1 a2  r3.2 r8 h8) v_14 rfl rfl cw_X5_follow ml_X6_145 (by decide) rfl (rest := []) rfl (Nat.le_of_ble_eq_true rfl) (dq 28 rfl) (by decide) ?_
          refine a_aload_n K (dq 29 rfl) rfl rfl ?_
          refine a_get K (T := 0) (i := 0) (k := 9) (v := .ref (ρ 14 0)) v_0 rfl rfl in_X6 (Nat.le_of_ble_eq_true rfl) fl_X6_57 rfl (dq 30 rfl) ?_
          obtain ⟨r9, h9, h⟩ := bnd h
          refine a_callVi K (s_X5_farms S   r8 r9 h9) v_14 rfl rfl cw_X5_farms ml_X6_126 (by decide) rfl (rest := []) rfl (Nat.le_of_ble_eq_true rfl) (dq 31 rfl) (by decide) ?_
          refine a_if_ne K (tgt := 81) (dq 32 rfl) rfl (fun c10 => ?_) (fun c10 => ?_)
          · have h := ite_f c10 h
            refine a_iconst K (dq 42 rfl) (v := 0) rfl ?_
            refine a_istore K (dq 43 rfl) (Nat.le_of_ble_eq_true rfl) (ls' := [some (.ref (ρ 0 0)), some (.int a1), some (.int a2), some (.int a3), some (.int 0), none]) rfl ?_
            refine a_le2 (ls' := [some (.ref (ρ 0 0)), none, none, some (.int a3), some (.int 0), none]) ⟨rfl, rfl, rfl, trivial⟩ ?_
            exact s_X6_refusesToCharge_L84 S    400 a3 0 r8 r h K hX
          · have h := ite_t c10 h
            refine a_aload_n K (dq 33 rfl) rfl rfl ?_
            refine a_get K (T := 0) (i := 0) (k := 5) (v := .ref (ρ 8 0)) v_0 rfl rfl in_X6 (Nat.le_of_ble_eq_true rfl) fl_X6_32 rfl (dq 34 rfl) ?_
            refine a_bipush K (dq 35 rfl) (v := 7) rfl ?_
            refine a_aload_n K (dq 36 rfl) rfl rfl ?_
            refine a_get K (T := 0) (i := 0) (k := 0) (v := .ref (ρ 1 0)) v_0 rfl rfl in_X6 (Nat.le_of_ble_eq_true rfl) fl_X6_10 rfl (dq 37 rfl) ?_
            refine a_iload_n K (dq 38 rfl) rfl rfl ?_
            obtain ⟨r18, h18, h⟩ := bnd h
            refine a_callVi K (s_X1_treeSizeOf S a1  r8 r18 h18) v_1 rfl rfl cw_X1_treeSizeOf ml_X6_153 (by decide) rfl (rest := [.int 7, .ref (ρ 8 0)]) rfl (Nat.le_of_ble_eq_true rfl) (dq 39 rfl) (by decide) ?_
            obtain ⟨r19, h19, h⟩ := bnd h
            refine a_callVi K (s_X3_keep S 7 r18  r8 r19 h19) v_8 rfl rfl cw_X3_keep ml_X6_388 (by decide) rfl (rest := []) rfl (Nat.le_of_ble_eq_true rfl) (dq 40 rfl) (by decide) ?_
            obtain rfl := Option.some.inj h
            exact a_iret K rfl rfl (dq 41 rfl) (Nat.le_of_ble_eq_true rfl) (Nat.le_of_ble_eq_true rfl) rfl rfl
        · have h := ite_f c7 h
          refine a_aload_n K (dq 16 rfl) rfl rfl ?_
          refine a_get K (T := 0) (i := 0) (k := 5) (v := .ref (ρ 8 0)) v_0 rfl rfl in_X6 (Nat.le_of_ble_eq_true rfl) fl_X6_32 rfl (dq 17 rfl) ?_
          refine a_iconst K (dq 18 rfl) (v := 1) rfl ?_
          refine a_iconst K (dq 19 rfl) (v := 0) rfl ?_
          obtain ⟨r20, h20, h⟩ := bnd h
          refine a_callVi K (s_X3_keep S 1 0  r3.2 r20 h20) v_8 rfl rfl cw_X3_keep ml_X6_388 (by decide) rfl (rest := []) rfl (Nat.le_of_ble_eq_true rfl) (dq 20 rfl) (by decide) ?_
          obtain rfl := Option.some.inj h
          exact a_iret K rfl rfl (dq 21 rfl) (Nat.le_of_ble_eq_true rfl) (Nat.le_of_ble_eq_true rfl) rfl rfl
    · have h := ite_f c4 h
      refine a_iconst K (dq 8 rfl) (v := 1) rfl ?_
      obtain rfl := Option.some.inj h
      exact a_iret K rfl rfl (dq 9 rfl) (Nat.le_of_ble_eq_true rfl) (Nat.le_of_ble_eq_true rfl) rfl rfl
def t_X6_layTrack : List (Nat × Instr × Nat) := [(0, .aload_n 0, 1), (1, .getfield 10, 3), (4, .iload_n 1, 1), (5, .invokevirtual 77, 3), (8, .iconst (-1), 1), (9, .if_icmp .eq 9, 3), (12, .aload_n 0, 1), (13, .iload_n 1, 1), (14, .invokevirtual 375, 3), (17, .pop, 1), (18, .aload_n 0, 1), (19, .getfield 10, 3), (22, .iload_n 1, 1), (23, .iload_n 2, 1), (24, .invokevirtual 393, 3), (27, .aload_n 0, 1), (28, .getfield 10, 3), (31, .iload_n 1, 1), (32, .invokevirtual 153, 3), (35, .ireturn, 1)]
theorem dt_X6_layTrack : tblOK cX6_layTrack t_X6_layTrack = true := by decide +kernel
def p_X6_layTrack (a1 : Int32) (a2 : Int32) (σ : Sg) : Option (Int32 × Sg) :=
  (p_X1_parentOf a1 σ).bind fun r1 => if r1 = (-1) then ((p_X1_setParent a1 a2 σ).bind fun r3 => (p_X1_treeSizeOf a1 r3).bind fun r4 => some (r4, r3)) else ((p_X6_rootAnew a1 σ).bind fun r5 => (p_X1_setParent a1 a2 r5.2).bind fun r6 => (p_X1_treeSizeOf a1 r6).bind fun r7 => some (r7, r6))
set_option maxRecDepth 20000 in
set_option maxHeartbeats 1000000 in
theorem s_X6_layTrack {l : Launch} {D : va_G} {ty : Nat → ClassId} {ρ : Nat → Nat → Nat} {N0 : Nat} (S : St l ty ρ N0) (a1 : Int32) (a2 : Int32)  (σ : Sg) (r : (Int32 × Sg)) (h : p_X6_layTrack a1 a2 σ = some r) : AMet l D ty ρ N0 yX6_layTrack (Cond.code yX6_layTrack cX6_layTrack 3 (some .int) :: GW) (rmk 4 0 0) [.ref (ρ 0 0), .int a1, .int a2] σ (oI r.1) r.2 := by
  refine am_enter S (by decide) rfl rfl (Nat.le_of_ble_eq_true rfl) ?_
  intro p e s m args below meth c K hX
  have dq := @tat _ _ dt_X6_layTrack
  unfold p_X6_layTrack at h
  show WA p l e _ s m args below meth c D ty ρ N0 3 _ 0 [some (.ref (ρ 0 0)), some (.int a1), some (.int a2)] [] σ 0 0
  refine a_aload_n K (dq 0 rfl) rfl rfl ?_
  refine a_get K (T := 0) (i := 0) (k := 0) (v := .ref (ρ 1 0)) v_0 rfl rfl in_X6 (Nat.le_of_ble_eq_true rfl) fl_X6_10 rfl (dq 1 rfl) ?_
  refine a_iload_n K (dq 2 rfl) rfl rfl ?_
  obtain ⟨r1, h1, h⟩ := bnd h
  refine a_callVi K (s_X1_parentOf S a1  σ r1 h1) v_1 rfl rfl cw_X1_parentOf ml_X6_77 (by decide) rfl (rest := []) rfl (Nat.le_of_ble_eq_true rfl) (dq 3 rfl) (by decide) ?_
  refine a_iconst K (dq 4 rfl) (v := (-1)) rfl ?_
  refine a_icmp_eq K (tgt := 18) (dq 5 rfl) rfl (fun c2 => ?_) (fun c2 => ?_)
  · have h := ite_t c2 h
    refine a_aload_n K (dq 10 rfl) rfl rfl ?_
    refine a_get K (T := 0) (i := 0) (k := 0) (v := .ref (ρ 1 0)) v_0 rfl rfl in_X6 (Nat.le_of_ble_eq_true rfl) fl_X6_10 rfl (dq 11 rfl) ?_
    refine a_iload_n K (dq 12 rfl) rfl rfl ?_
    refine a_iload_n K (dq 13 rfl) rfl rfl ?_
    obtain ⟨r3, h3, h⟩ := bnd h
    refine a_callVv K (s_X1_setParent S a1 a2  σ r3 h3) v_1 rfl rfl cw_X1_setParent ml_X6_393 (by decide) rfl (rest := []) rfl (Nat.le_of_ble_eq_true rfl) (dq 14 rfl) (by decide) ?_
    refine a_aload_n K (dq 15 rfl) rfl rfl ?_
    refine a_get K (T := 0) (i := 0) (k := 0) (v := .ref (ρ 1 0)) v_0 rfl rfl in_X6 (Nat.le_of_ble_eq_true rfl) fl_X6_10 rfl (dq 16 rfl) ?_
    refine a_iload_n K (dq 17 rfl) rfl rfl ?_
    obtain ⟨r4, h4, h⟩ := bnd h
    refine a_callVi K (s_X1_treeSizeOf S a1  r3 r4 h4) v_1 rfl rfl cw_X1_treeSizeOf ml_X6_153 (by decide) rfl (rest := []) rfl (Nat.le_of_ble_eq_true rfl) (dq 18 rfl) (by decide) ?_
    obtain rfl := Option.some.inj h
    exact a_iret K rfl rfl (dq 19 rfl) (Nat.le_of_ble_eq_true rfl) (Nat.le_of_ble_eq_true rfl) rfl rfl
  · have h := ite_f c2 h
    refine a_aload_n K (dq 6 rfl) rfl rfl ?_
    refine a_iload_n K (dq 7 rfl) rfl rfl ?_
    obtain ⟨r5, h5, h⟩ := bnd h
    refine a_callVi K (s_X6_rootAnew S a1  σ r5 h5) v_0 rfl rfl cw_X6_rootAnew ml_X6_375 (by decide) rfl (rest := []) rfl (Nat.le_of_ble_eq_true rfl) (dq 8 rfl) (by decide) ?_
    refine a_pop K (dq 9 rfl) rfl ?_
    refine a_aload_n K (dq 10 rfl) rfl rfl ?_
    refine a_get K (T := 0) (i := 0) (k := 0) (v := .ref (ρ 1 0)) v_0 rfl rfl in_X6 (Nat.le_of_ble_eq_true rfl) fl_X6_10 rfl (dq 11 rfl) ?_
    refine a_iload_n K (dq 12 rfl) rfl rfl ?_
    refine a_iload_n K (dq 13 rfl) rfl rfl ?_
    obtain ⟨r6, h6, h⟩ := bnd h
    refine a_callVv K (s_X1_setParent S a1 a2  r5.2 r6 h6) v_1 rfl rfl cw_X1_setParent ml_X6_393 (by decide) rfl (rest := []) rfl (Nat.le_of_ble_eq_true rfl) (dq 14 rfl) (by decide) ?_
    refine a_aload_n K (dq 15 rfl) rfl rfl ?_
    refine a_get K (T := 0) (i := 0) (k := 0) (v := .ref (ρ 1 0)) v_0 rfl rfl in_X6 (Nat.le_of_ble_eq_true rfl) fl_X6_10 rfl (dq 16 rfl) ?_
    refine a_iload_n K (dq 17 rfl) rfl rfl ?_
    obtain ⟨r7, h7, h⟩ := bnd h
    refine a_callVi K (s_X1_treeSizeOf S a1  r6 r7 h7) v_1 rfl rfl cw_X1_treeSizeOf ml_X6_153 (by decide) rfl (rest := []) rfl (Nat.le_of_ble_eq_true rfl) (dq 18 rfl) (by decide) ?_
    obtain rfl := Option.some.inj h
    exact a_iret K rfl rfl (dq 19 rfl) (Nat.le_of_ble_eq_true rfl) (Nat.le_of_ble_eq_true rfl) rfl rfl
def t_X6_farmOf : List (Nat × Instr × Nat) := [(0, .aload_n 0, 1), (1, .iload_n 1, 1), (2, .invokevirtual 69, 3), (5, .iload_n 2, 1), (6, .tableswitch 105 0 6 #[42, 51, 60, 69, 78, 87, 96], 42), (48, .aload_n 0, 1), (49, .getfield 10, 3), (52, .iload_n 1, 1), (53, .invokevirtual 73, 3), (56, .ireturn, 1), (57, .aload_n 0, 1), (58, .getfield 10, 3), (61, .iload_n 1, 1), (62, .invokevirtual 77, 3), (65, .ireturn, 1), (66, .aload_n 0, 1), (67, .getfield 10, 3), (70, .iload_n 1, 1), (71, .invokevirtual 80, 3), (74, .ireturn, 1), (75, .aload_n 0, 1), (76, .getfield 10, 3), (79, .iload_n 1, 1), (80, .invokevirtual 83, 3), (83, .ireturn, 1), (84, .aload_n 0, 1), (85, .getfield 10, 3), (88, .iload_n 1, 1), (89, .invokevirtual 86, 3), (92, .ireturn, 1), (93, .aload_n 0, 1), (94, .getfield 10, 3), (97, .iload_n 1, 1), (98, .invokevirtual 89, 3), (101, .ireturn, 1), (102, .aload_n 0, 1), (103, .getfield 10, 3), (106, .iload_n 1, 1), (107, .invokevirtual 92, 3), (110, .ireturn, 1), (111, .new 95, 3), (114, .dup, 1), (115, .ldc 97, 2), (117, .invokespecial 99, 3), (120, .athrow, 1)]
theorem dt_X6_farmOf : tblOK cX6_farmOf t_X6_farmOf = true := by decide +kernel
def p_X6_farmOf (a1 : Int32) (a2 : Int32) (σ : Sg) : Option ((Int32 ⊕ String) × Sg) :=
  (p_X6_requireFarm a1 σ).bind fun r1 => sm r1.1 (fun x2 => if a2 = 0 then ((p_X1_tollOf a1 r1.2).bind fun r5 => some (.inl r5, r1.2)) else (if a2 = 1 then ((p_X1_parentOf a1 r1.2).bind fun r7 => some (.inl r7, r1.2)) else (if a2 = 2 then ((p_X1_preferredOf a1 r1.2).bind fun r9 => some (.inl r9, r1.2)) else (if a2 = 3 then ((p_X1_depthOf a1 r1.2).bind fun r11 => some (.inl r11, r1.2)) else (if a2 = 4 then ((p_X1_childrenOf a1 r1.2).bind fun r13 => some (.inl r13, r1.2)) else (if a2 = 5 then ((p_X1_behindOf a1 r1.2).bind fun r15 => some (.inl r15, r1.2)) else (if a2 = 6 then ((p_X1_rootOf a1 r1.2).bind fun r17 => some (.inl r17, r1.2)) else (some (.inr "java/lang/IllegalArgumentException", r1.2))))))))) (fun E3 => some (.inr E3, r1.2))
set_option maxRecDepth 20000 in
set_option maxHeartbeats 1000000 in
theorem s_X6_farmOf {l : Launch} {D : va_G} {ty : Nat → ClassId} {ρ : Nat → Nat → Nat} {N0 : Nat} (S : St l ty ρ N0) (a1 : Int32) (a2 : Int32)  (σ : Sg) (r : ((Int32 ⊕ String) × Sg)) (h : p_X6_farmOf a1 a2 σ = some r) : AMet l D ty ρ N0 yX6_farmOf (Cond.code yX6_farmOf cX6_farmOf 3 (some .int) :: GW) (rmk 4 2 12) [.ref (ρ 0 0), .int a1, .int a2] σ (oT r.1) r.2 := by
  refine am_enter S (by decide) rfl rfl (Nat.le_of_ble_eq_true rfl) ?_
  intro p e s m args below meth c K hX
  have dq := @tat _ _ dt_X6_farmOf
  unfold p_X6_farmOf at h
  show WA p l e _ s m args below meth c D ty ρ N0 3 _ 0 [some (.ref (ρ 0 0)), some (.int a1), some (.int a2)] [] σ 0 0
  refine a_aload_n K (dq 0 rfl) rfl rfl ?_
  refine a_iload_n K (dq 1 rfl) rfl rfl ?_
  obtain ⟨r1, h1, h⟩ := bnd h
  refine a_callVvt K (s_X6_requireFarm S a1  σ r1 h1) v_0 rfl rfl cw_X6_requireFarm ml_X6_69 (by decide) rfl (rest := []) rfl (Nat.le_of_ble_eq_true rfl) (dq 2 rfl) (by decide) (fun x2 hx2 => ?_) (fun E3 hE3 => ?_)
  · have h := sm_l hx2 h
    refine a_iload_n K (dq 3 rfl) rfl rfl ?_
    by_cases c4 : a2 = 0
    · have h := ite_t c4 h
      refine a_tableIn K (off := 42) (tgt := 48) (dq 4 rfl) (by rw [c4]; decide) (by rw [c4]; decide) (by rw [c4]; rfl) rfl ?_
      refine a_aload_n K (dq 5 rfl) rfl rfl ?_
      refine a_get K (T := 0) (i := 0) (k := 0) (v := .ref (ρ 1 0)) v_0 rfl rfl in_X6 (Nat.le_of_ble_eq_true rfl) fl_X6_10 rfl (dq 6 rfl) ?_
      refine a_iload_n K (dq 7 rfl) rfl rfl ?_
      obtain ⟨r5, h5, h⟩ := bnd h
      refine a_callVi K (s_X1_tollOf S a1  r1.2 r5 h5) v_1 rfl rfl cw_X1_tollOf ml_X6_73 (by decide) rfl (rest := []) rfl (Nat.le_of_ble_eq_true rfl) (dq 8 rfl) (by decide) ?_
      obtain rfl := Option.some.inj h
      exact a_iret K rfl rfl (dq 9 rfl) (Nat.le_of_ble_eq_true rfl) (Nat.le_of_ble_eq_true rfl) rfl rfl
    · have h := ite_f c4 h
      by_cases c6 : a2 = 1
      · have h := ite_t c6 h
        refine a_tableIn K (off := 51) (tgt := 57) (dq 4 rfl) (by rw [c6]; decide) (by rw [c6]; decide) (by rw [c6]; rfl) rfl ?_
        refine a_aload_n K (dq 10 rfl) rfl rfl ?_
        refine a_get K (T := 0) (i := 0) (k := 0) (v := .ref (ρ 1 0)) v_0 rfl rfl in_X6 (Nat.le_of_ble_eq_true rfl) fl_X6_10 rfl (dq 11 rfl) ?_
        refine a_iload_n K (dq 12 rfl) rfl rfl ?_
        obtain ⟨r7, h7, h⟩ := bnd h
        refine a_callVi K (s_X1_parentOf S a1  r1.2 r7 h7) v_1 rfl rfl cw_X1_parentOf ml_X6_77 (by decide) rfl (rest := []) rfl (Nat.le_of_ble_eq_true rfl) (dq 13 rfl) (by decide) ?_
        obtain rfl := Option.some.inj h
        exact a_iret K rfl rfl (dq 14 rfl) (Nat.le_of_ble_eq_true rfl) (Nat.le_of_ble_eq_true rfl) rfl rfl
      · have h := ite_f c6 h
        by_cases c8 : a2 = 2
        · have h := ite_t c8 h
          refine a_tableIn K (off := 60) (tgt := 66) (dq 4 rfl) (by rw [c8]; decide) (by rw [c8]; decide) (by rw [c8]; rfl) rfl ?_
          refine a_aload_n K (dq 15 rfl) rfl rfl ?_
          refine a_get K (T := 0) (i := 0) (k := 0) (v := .ref (ρ 1 0)) v_0 rfl rfl in_X6 (Nat.le_of_ble_eq_true rfl) fl_X6_10 rfl (dq 16 rfl) ?_
          refine a_iload_n K (dq 17 rfl) rfl rfl ?_
          obtain ⟨r9, h9, h⟩ := bnd h
          refine a_callVi K (s_X1_preferredOf S a1  r1.2 r9 h9) v_1 rfl rfl cw_X1_preferredOf ml_X6_80 (by decide) rfl (rest := []) rfl (Nat.le_of_ble_eq_true rfl) (dq 18 rfl) (by decide) ?_
          obtain rfl := Option.some.inj h
          exact a_iret K rfl rfl (dq 19 rfl) (Nat.le_of_ble_eq_true rfl) (Nat.le_of_ble_eq_true rfl) rfl rfl
        · have h := ite_f c8 h
          by_cases c10 : a2 = 3
          · have h := ite_t c10 h
            refine a_tableIn K (off := 69) (tgt := 75) (dq 4 rfl) (by rw [c10]; decide) (by rw [c10]; decide) (by rw [c10]; rfl) rfl ?_
            refine a_aload_n K (dq 20 rfl) rfl rfl ?_
            refine a_get K (T := 0) (i := 0) (k := 0) (v := .ref (ρ 1 0)) v_0 rfl rfl in_X6 (Nat.le_of_ble_eq_true rfl) fl_X6_10 rfl (dq 21 rfl) ?_
            refine a_iload_n K (dq 22 rfl) rfl rfl ?_
            obtain ⟨r11, h11, h⟩ := bnd h
            refine a_callVi K (s_X1_depthOf S a1  r1.2 r11 h11) v_1 rfl rfl cw_X1_depthOf ml_X6_83 (by decide) rfl (rest := []) rfl (Nat.le_of_ble_eq_true rfl) (dq 23 rfl) (by decide) ?_
            obtain rfl := Option.some.inj h
            exact a_iret K rfl rfl (dq 24 rfl) (Nat.le_of_ble_eq_true rfl) (Nat.le_of_ble_eq_true rfl) rfl rfl
          · have h := ite_f c10 h
            by_cases c12 : a2 = 4
            · have h := ite_t c12 h
              refine a_tableIn K (off := 78) (tgt := 84) (dq 4 rfl) (by rw [c12]; decide) (by rw [c12]; decide) (by rw [c12]; rfl) rfl ?_
              refine a_aload_n K (dq 25 rfl) rfl rfl ?_
              refine a_get K (T := 0) (i := 0) (k := 0) (v := .ref (ρ 1 0)) v_0 rfl rfl in_X6 (Nat.le_of_ble_eq_true rfl) fl_X6_10 rfl (dq 26 rfl) ?_
              refine a_iload_n K (dq 27 rfl) rfl rfl ?_
              obtain ⟨r13, h13, h⟩ := bnd h
              refine a_callVi K (s_X1_childrenOf S a1  r1.2 r13 h13) v_1 rfl rfl cw_X1_childrenOf ml_X6_86 (by decide) rfl (rest := []) rfl (Nat.le_of_ble_eq_true rfl) (dq 28 rfl) (by decide) ?_
              obtain rfl := Option.some.inj h
              exact a_iret K rfl rfl (dq 29 rfl) (Nat.le_of_ble_eq_true rfl) (Nat.le_of_ble_eq_true rfl) rfl rfl
            · have h := ite_f c12 h
              by_cases c14 : a2 = 5
              · have h := ite_t c14 h
                refine a_tableIn K (off := 87) (tgt := 93) (dq 4 rfl) (by rw [c14]; decide) (by rw [c14]; decide) (by rw [c14]; rfl) rfl ?_
                refine a_aload_n K (dq 30 rfl) rfl rfl ?_
                refine a_get K (T := 0) (i := 0) (k := 0) (v := .ref (ρ 1 0)) v_0 rfl rfl in_X6 (Nat.le_of_ble_eq_true rfl) fl_X6_10 rfl (dq 31 rfl) ?_
                refine a_iload_n K (dq 32 rfl) rfl rfl ?_
                obtain ⟨r15, h15, h⟩ := bnd h
                refine a_callVi K (s_X1_behindOf S a1  r1.2 r15 h15) v_1 rfl rfl cw_X1_behindOf ml_X6_89 (by decide) rfl (rest := []) rfl (Nat.le_of_ble_eq_true rfl) (dq 33 rfl) (by decide) ?_
                obtain rfl := Option.some.inj h
                exact a_iret K rfl rfl (dq 34 rfl) (Nat.le_of_ble_eq_true rfl) (Nat.le_of_ble_eq_true rfl) rfl rfl
              · have h := ite_f c14 h
                by_cases c16 : a2 = 6
                · have h := ite_t c16 h
                  refine a_tableIn K (off := 96) (tgt := 102) (dq 4 rfl) (by rw [c16]; decide) (by rw [c16]; decide) (by rw [c16]; rfl) rfl ?_
                  refine a_aload_n K (dq 35 rfl) rfl rfl ?_
                  refine a_get K (T := 0) (i := 0) (k := 0) (v := .ref (ρ 1 0)) v_0 rfl rfl in_X6 (Nat.le_of_ble_eq_true rfl) fl_X6_10 rfl (dq 36 rfl) ?_
                  refine a_iload_n K (dq 37 rfl) rfl rfl ?_
                  obtain ⟨r17, h17, h⟩ := bnd h
                  refine a_callVi K (s_X1_rootOf S a1  r1.2 r17 h17) v_1 rfl rfl cw_X1_rootOf ml_X6_92 (by decide) rfl (rest := []) rfl (Nat.le_of_ble_eq_true rfl) (dq 38 rfl) (by decide) ?_
                  obtain rfl := Option.some.inj h
                  exact a_iret K rfl rfl (dq 39 rfl) (Nat.le_of_ble_eq_true rfl) (Nat.le_of_ble_eq_true rfl) rfl rfl
                · have h := ite_f c16 h
                  refine a_tableD K (tgt := 111) (dq 4 rfl) ?_ rfl ?_
                  · have := i32ne c4 (k := 0) (by decide); have := i32ne c6 (k := 1) (by decide); have := i32ne c8 (k := 2) (by decide); have := i32ne c10 (k := 3) (by decide); have := i32ne c12 (k := 4) (by decide); have := i32ne c14 (k := 5) (by decide); have := i32ne c16 (k := 6) (by decide)
                    have hz : (a2).toInt < 0 ∨ 6 < (a2).toInt := by omega
                    rcases hz with q | q
                    · exact Or.inl q
                    · exact Or.inr (Or.inl q)
                  obtain rfl := Option.some.inj h
                  exact a_throwS K hX th_X6_95_97_99 (dq 40 rfl) (dq 41 rfl) (dq 42 rfl) (dq 43 rfl) (dq 44 rfl) (Nat.le_of_ble_eq_true rfl) (Nat.le_of_ble_eq_true rfl) (Nat.le_of_ble_eq_true rfl) (Nat.le_of_ble_eq_true rfl) (Nat.le_of_ble_eq_true rfl) (Nat.le_of_ble_eq_true rfl) rfl rfl
  · have h := sm_r hE3 h
    obtain rfl := Option.some.inj h
    exact a_out K hX (Nat.le_of_ble_eq_true rfl) (Nat.le_of_ble_eq_true rfl) rfl rfl
def t_X6_steps : List (Nat × Instr × Nat) := [(0, .aload_n 0, 1), (1, .iload_n 1, 1), (2, .iload_n 2, 1), (3, .invokevirtual 102, 3), (6, .aload_n 0, 1), (7, .getfield 57, 3), (10, .invokevirtual 106, 3), (13, .ireturn, 1)]
theorem dt_X6_steps : tblOK cX6_steps t_X6_steps = true := by decide +kernel
def p_X6_steps (a1 : Int32) (a2 : Int32) (σ : Sg) : Option ((Int32 ⊕ String) × Sg) :=
  (p_X6_followWay a1 a2 σ).bind fun r1 => sm r1.1 (fun x2 => (p_X5_tracks  r1.2).bind fun r4 => some (.inl r4, r1.2)) (fun E3 => some (.inr E3, r1.2))
set_option maxRecDepth 20000 in
set_option maxHeartbeats 1000000 in
theorem s_X6_steps {l : Launch} {D : va_G} {ty : Nat → ClassId} {ρ : Nat → Nat → Nat} {N0 : Nat} (S : St l ty ρ N0) (a1 : Int32) (a2 : Int32)  (σ : Sg) (r : ((Int32 ⊕ String) × Sg)) (h : p_X6_steps a1 a2 σ = some r) : AMet l D ty ρ N0 yX6_steps (Cond.code yX6_steps cX6_steps 3 (some .int) :: GW) (rmk 4 3 18) [.ref (ρ 0 0), .int a1, .int a2] σ (oT r.1) r.2 := by
  refine am_enter S (by decide) rfl rfl (Nat.le_of_ble_eq_true rfl) ?_
  intro p e s m args below meth c K hX
  have dq := @tat _ _ dt_X6_steps
  unfold p_X6_steps at h
  show WA p l e _ s m args below meth c D ty ρ N0 3 _ 0 [some (.ref (ρ 0 0)), some (.int a1), some (.int a2)] [] σ 0 0
  refine a_aload_n K (dq 0 rfl) rfl rfl ?_
  refine a_iload_n K (dq 1 rfl) rfl rfl ?_
  refine a_iload_n K (dq 2 rfl) rfl rfl ?_
  obtain ⟨r1, h1, h⟩ := bnd h
  refine a_callVvt K (s_X6_followWay S a1 a2  σ r1 h1) v_0 rfl rfl cw_X6_followWay ml_X6_102 (by decide) rfl (rest := []) rfl (Nat.le_of_ble_eq_true rfl) (dq 3 rfl) (by decide) (fun x2 hx2 => ?_) (fun E3 hE3 => ?_)
  · have h := sm_l hx2 h
    refine a_aload_n K (dq 4 rfl) rfl rfl ?_
    refine a_get K (T := 0) (i := 0) (k := 9) (v := .ref (ρ 14 0)) v_0 rfl rfl in_X6 (Nat.le_of_ble_eq_true rfl) fl_X6_57 rfl (dq 5 rfl) ?_
    obtain ⟨r4, h4, h⟩ := bnd h
    refine a_callVi K (s_X5_tracks S   r1.2 r4 h4) v_14 rfl rfl cw_X5_tracks ml_X6_106 (by decide) rfl (rest := []) rfl (Nat.le_of_ble_eq_true rfl) (dq 6 rfl) (by decide) ?_
    obtain rfl := Option.some.inj h
    exact a_iret K rfl rfl (dq 7 rfl) (Nat.le_of_ble_eq_true rfl) (Nat.le_of_ble_eq_true rfl) rfl rfl
  · have h := sm_r hE3 h
    obtain rfl := Option.some.inj h
    exact a_out K hX (Nat.le_of_ble_eq_true rfl) (Nat.le_of_ble_eq_true rfl) rfl rfl
def t_X6_farthest : List (Nat × Instr × Nat) := [(0, .aload_n 0, 1), (1, .iload_n 1, 1), (2, .invokevirtual 69, 3), (5, .aload_n 0, 1), (6, .iload_n 1, 1), (7, .invokevirtual 156, 3), (10, .ireturn, 1)]
theorem dt_X6_farthest : tblOK cX6_farthest t_X6_farthest = true := by decide +kernel
def p_X6_farthest (a1 : Int32) (σ : Sg) : Option ((Int32 ⊕ String) × Sg) :=
  (p_X6_requireFarm a1 σ).bind fun r1 => sm r1.1 (fun x2 => (p_X6_farthestFrom a1 r1.2).bind fun r4 => some (.inl r4.1, r4.2)) (fun E3 => some (.inr E3, r1.2))
set_option maxRecDepth 20000 in
set_option maxHeartbeats 1000000 in
theorem s_X6_farthest {l : Launch} {D : va_G} {ty : Nat → ClassId} {ρ : Nat → Nat → Nat} {N0 : Nat} (S : St l ty ρ N0) (a1 : Int32)  (σ : Sg) (r : ((Int32 ⊕ String) × Sg)) (h : p_X6_farthest a1 σ = some r) : AMet l D ty ρ N0 yX6_farthest (Cond.code yX6_farthest cX6_farthest 2 (some .int) :: GW) (rmk 4 1 6) [.ref (ρ 0 0), .int a1] σ (oT r.1) r.2 := by
  refine am_enter S (by decide) rfl rfl (Nat.le_of_ble_eq_true rfl) ?_
  intro p e s m args below meth c K hX
  have dq := @tat _ _ dt_X6_farthest
  unfold p_X6_farthest at h
  show WA p l e _ s m args below meth c D ty ρ N0 2 _ 0 [some (.ref (ρ 0 0)), some (.int a1)] [] σ 0 0
  refine a_aload_n K (dq 0 rfl) rfl rfl ?_
  refine a_iload_n K (dq 1 rfl) rfl rfl ?_
  obtain ⟨r1, h1, h⟩ := bnd h
  refine a_callVvt K (s_X6_requireFarm S a1  σ r1 h1) v_0 rfl rfl cw_X6_requireFarm ml_X6_69 (by decide) rfl (rest := []) rfl (Nat.le_of_ble_eq_true rfl) (dq 2 rfl) (by decide) (fun x2 hx2 => ?_) (fun E3 hE3 => ?_)
  · have h := sm_l hx2 h
    refine a_aload_n K (dq 3 rfl) rfl rfl ?_
    refine a_iload_n K (dq 4 rfl) rfl rfl ?_
    obtain ⟨r4, h4, h⟩ := bnd h
    refine a_callVi K (s_X6_farthestFrom S a1  r1.2 r4 h4) v_0 rfl rfl cw_X6_farthestFrom ml_X6_156 (by decide) rfl (rest := []) rfl (Nat.le_of_ble_eq_true rfl) (dq 5 rfl) (by decide) ?_
    obtain rfl := Option.some.inj h
    exact a_iret K rfl rfl (dq 6 rfl) (Nat.le_of_ble_eq_true rfl) (Nat.le_of_ble_eq_true rfl) rfl rfl
  · have h := sm_r hE3 h
    obtain rfl := Option.some.inj h
    exact a_out K hX (Nat.le_of_ble_eq_true rfl) (Nat.le_of_ble_eq_true rfl) rfl rfl
def t_X6_ranked : List (Nat × Instr × Nat) := [(0, .aload_n 0, 1), (1, .getfield 10, 3), (4, .iload_n 1, 1), (5, .invokevirtual 136, 3), (8, .ifCond .ne 13, 3), (11, .new 140, 3), (14, .dup, 1), (15, .ldc 176, 2), (17, .invokespecial 144, 3), (20, .athrow, 1), (21, .aload_n 0, 1), (22, .invokevirtual 178, 3), (25, .iconst 0, 1), (26, .istore_n 2, 1), (27, .iload_n 2, 1), (28, .bipush 12, 2), (30, .if_icmp .ge 18, 3), (33, .aload_n 0, 1), (34, .iload_n 2, 1), (35, .invokevirtual 181, 3), (38, .iload_n 1, 1), (39, .if_icmp .eq 9, 3), (42, .iinc 2 1, 3), (45, .goto (-18), 3), (48, .iload_n 2, 1), (49, .ireturn, 1)]
theorem dt_X6_ranked : tblOK cX6_ranked t_X6_ranked = true := by decide +kernel
def p_X6_ranked_L27  : Nat → Int32 → Int32 → Sg → Option (((Int32 ⊕ String) × Sg))
  | 0, _, _, _ => none
  | n + 1, v1, v2, σ => if 12 ≤ v2 then (some (.inl v2, σ)) else ((p_X6_farmsRankedAhead v2 σ).bind fun r5 => if r5 = v1 then (some (.inl v2, σ)) else (p_X6_ranked_L27 n v1 (v2 + 1) σ))
def p_X6_ranked (a1 : Int32) (σ : Sg) : Option ((Int32 ⊕ String) × Sg) :=
  (p_X1_has a1 σ).bind fun r1 => if r1 = 0 then (some (.inr "java/util/NoSuchElementException", σ)) else ((p_X6_fillRankKeys  σ).bind fun r3 => p_X6_ranked_L27 400 a1 0 r3)
set_option maxRecDepth 20000 in
set_option maxHeartbeats 1000000 in
theorem s_X6_ranked_L27 {l : Launch} {D : va_G} {ty : Nat → ClassId} {ρ : Nat → Nat → Nat} {N0 : Nat} (S : St l ty ρ N0)   : ∀ (n : Nat) (v1 : Int32) (v2 : Int32) (σ : Sg) (r : ((Int32 ⊕ String) × Sg)) (h : p_X6_ranked_L27  n v1 v2 σ = some r) {p : Program} {e : Env} {s : State} {m : MethodId} {args : Array Value} {below : List Frame} {meth : Method} {c : Code} (K : Cx p l s m args meth c cX6_ranked 3 RX6 (some .int) D ty ρ N0) (hX : ∀ x ∈ c.exceptionTable.toList, False), WA p l e (rmk 5 1 6) s m args below meth c D ty ρ N0 3 (vx_MQ below (oQ D ty ρ N0 (oT r.1) r.2) (oX D ty ρ N0 (oT r.1) r.2) args s 1 6 (fun q => N0 ≤ q)) 27 [some (.ref (ρ 0 0)), some (.int v1), some (.int v2)] [] σ 0 0 := by
  intro n
  induction n with
  | zero =>
    intro v1 v2 σ r h
    simp only [p_X6_ranked_L27] at h
    cases h
  | succ n ih =>
    intro v1 v2 σ r h p e s m args below meth c K hX
    have dq := @tat _ _ dt_X6_ranked
    rw [p_X6_ranked_L27] at h
    refine a_iload_n K (dq 14 rfl) rfl rfl ?_
    refine a_bipush K (dq 15 rfl) (v := 12) rfl ?_
    refine a_icmp_ge K (tgt := 48) (dq 16 rfl) rfl (fun c4 => ?_) (fun c4 => ?_)
    · have h := ite_t c4 h
      refine a_iload_n K (dq 24 rfl) rfl rfl ?_
      obtain rfl := Option.some.inj h
      exact a_iret K rfl rfl (dq 25 rfl) (Nat.le_of_ble_eq_true rfl) (Nat.le_of_ble_eq_true rfl) rfl rfl
    · have h := ite_f c4 h
      refine a_aload_n K (dq 17 rfl) rfl rfl ?_
      refine a_iload_n K (dq 18 rfl) rfl rfl ?_
      obtain ⟨r5, h5, h⟩ := bnd h
      refine a_callVi K (s_X6_farmsRankedAhead S v2  σ r5 h5) v_0 rfl rfl cw_X6_farmsRankedAhead ml_X6_181 (by decide) rfl (rest := []) rfl (Nat.le_of_ble_eq_true rfl) (dq 19 rfl) (by decide) ?_
      refine a_iload_n K (dq 20 rfl) rfl rfl ?_
      refine a_icmp_eq K (tgt := 48) (dq 21 rfl) rfl (fun c6 => ?_) (fun c6 => ?_)
      · have h := ite_t c6 h
        refine a_iload_n K (dq 24 rfl) rfl rfl ?_
        obtain rfl := Option.some.inj h
        exact a_iret K rfl rfl (dq 25 rfl) (Nat.le_of_ble_eq_true rfl) (Nat.le_of_ble_eq_true rfl) rfl rfl
      · have h := ite_f c6 h
        refine a_iinc K (dq 22 rfl) rfl (v := (v2 + 1)) rfl (Nat.le_of_ble_eq_true rfl) (ls' := [some (.ref (ρ 0 0)), some (.int v1), some (.int (v2 + 1))]) rfl ?_
        refine a_goto K (tgt := 27) (dq 23 rfl) rfl ?_
        exact ih v1 (v2 + 1) σ r h K hX
set_option maxRecDepth 20000 in
set_option maxHeartbeats 1000000 in
theorem s_X6_ranked {l : Launch} {D : va_G} {ty : Nat → ClassId} {ρ : Nat → Nat → Nat} {N0 : Nat} (S : St l ty ρ N0) (a1 : Int32)  (σ : Sg) (r : ((Int32 ⊕ String) × Sg)) (h : p_X6_ranked a1 σ = some r) : AMet l D ty ρ N0 yX6_ranked (Cond.code yX6_ranked cX6_ranked 3 (some .int) :: GW) (rmk 5 1 6) [.ref (ρ 0 0), .int a1] σ (oT r.1) r.2 := by
  refine am_enter S (by decide) rfl rfl (Nat.le_of_ble_eq_true rfl) ?_
  intro p e s m args below meth c K hX
  have dq := @tat _ _ dt_X6_ranked
  unfold p_X6_ranked at h
  show WA p l e _ s m args below meth c D ty ρ N0 3 _ 0 [some (.ref (ρ 0 0)), some (.int a1), none] [] σ 0 0
  refine a_aload_n K (dq 0 rfl) rfl rfl ?_
  refine a_get K (T := 0) (i := 0) (k := 0) (v := .ref (ρ 1 0)) v_0 rfl rfl in_X6 (Nat.le_of_ble_eq_true rfl) fl_X6_10 rfl (dq 1 rfl) ?_
  refine a_iload_n K (dq 2 rfl) rfl rfl ?_
  obtain ⟨r1, h1, h⟩ := bnd h
  refine a_callVi K (s_X1_has S a1  σ r1 h1) v_1 rfl rfl cw_X1_has ml_X6_136 (by decide) rfl (rest := []) rfl (Nat.le_of_ble_eq_true rfl) (dq 3 rfl) (by decide) ?_
  refine a_if_ne K (tgt := 21) (dq 4 rfl) rfl (fun c2 => ?_) (fun c2 => ?_)
  · have h := ite_f c2 h
    refine a_aload_n K (dq 10 rfl) rfl rfl ?_
    obtain ⟨r3, h3, h⟩ := bnd h
    refine a_callVv K (s_X6_fillRankKeys S   σ r3 h3) v_0 rfl rfl cw_X6_fillRankKeys ml_X6_178 (by decide) rfl (rest := []) rfl (Nat.le_of_ble_eq_true rfl) (dq 11 rfl) (by decide) ?_
    refine a_iconst K (dq 12 rfl) (v := 0) rfl ?_
    refine a_istore_n K (dq 13 rfl) rfl (Nat.le_of_ble_eq_true rfl) (ls' := [some (.ref (ρ 0 0)), some (.int a1), some (.int 0)]) rfl ?_
    exact s_X6_ranked_L27 S    400 a1 0 r3 r h K hX
  · have h := ite_t c2 h
    obtain rfl := Option.some.inj h
    exact a_throwNS K hX th_X6_140_176_144 (dq 5 rfl) (dq 6 rfl) (dq 7 rfl) (dq 8 rfl) (dq 9 rfl) (Nat.le_of_ble_eq_true rfl) (Nat.le_of_ble_eq_true rfl) (Nat.le_of_ble_eq_true rfl) (Nat.le_of_ble_eq_true rfl) (Nat.le_of_ble_eq_true rfl) (Nat.le_of_ble_eq_true rfl) rfl rfl
def t_X6_isRefused : List (Nat × Instr × Nat) := [(0, .iload_n 1, 1), (1, .tableswitch 128 99 116 #[100, 128, 113, 87, 128, 128, 128, 128, 128, 93, 128, 128, 128, 128, 128, 107, 128, 119], 87), (88, .aload_n 0, 1), (89, .iload_n 2, 1), (90, .invokevirtual 344, 3), (93, .ireturn, 1), (94, .aload_n 0, 1), (95, .iload_n 2, 1), (96, .iload_n 3, 1), (97, .invokevirtual 347, 3), (100, .ireturn, 1), (101, .aload_n 0, 1), (102, .iload_n 2, 1), (103, .iload_n 3, 1), (104, .invokevirtual 350, 3), (107, .ireturn, 1), (108, .aload_n 0, 1), (109, .iload_n 2, 1), (110, .invokevirtual 353, 3), (113, .ireturn, 1), (114, .aload_n 0, 1), (115, .iload_n 2, 1), (116, .invokevirtual 356, 3), (119, .ireturn, 1), (120, .aload_n 0, 1), (121, .iload_n 2, 1), (122, .iload_n 3, 1), (123, .iload 4, 2), (125, .invokevirtual 359, 3), (128, .ireturn, 1), (129, .aload_n 0, 1), (130, .iload_n 2, 1), (131, .iload_n 3, 1), (132, .invokevirtual 363, 3), (135, .ireturn, 1)]
theorem dt_X6_isRefused : tblOK cX6_isRefused t_X6_isRefused = true := by decide +kernel
def p_X6_isRefused (a1 : Int32) (a2 : Int32) (a3 : Int32) (a4 : Int32) (σ : Sg) : Option (Int32 × Sg) :=
  if a1 = 99 then ((p_X6_refusesToGiveUp a2 a3 σ).bind fun r2 => some (nb r2.1, r2.2)) else (if a1 = 101 then ((p_X6_refusesFarm a2 σ).bind fun r4 => some (nb r4.1, r4.2)) else (if a1 = 102 then ((p_X6_refusesToBuild a2 σ).bind fun r6 => some (nb r6.1, r6.2)) else (if a1 = 108 then ((p_X6_refusesToLay a2 a3 σ).bind fun r8 => some (nb r8.1, r8.2)) else (if a1 = 114 then ((p_X6_refusesToRoot a2 σ).bind fun r10 => some (nb r10.1, r10.2)) else (if a1 = 116 then ((p_X6_refusesToCharge a2 a3 a4 σ).bind fun r12 => some (nb r12.1, r12.2)) else ((p_X6_refusesToDrive a2 a3 σ).bind fun r13 => some (nb r13.1, r13.2)))))))
set_option maxRecDepth 20000 in
set_option maxHeartbeats 1000000 in
theorem s_X6_isRefused {l : Launch} {D : va_G} {ty : Nat → ClassId} {ρ : Nat → Nat → Nat} {N0 : Nat} (S : St l ty ρ N0) (a1 : Int32) (a2 : Int32) (a3 : Int32) (a4 : Int32)  (σ : Sg) (r : (Int32 × Sg)) (h : p_X6_isRefused a1 a2 a3 a4 σ = some r) : AMet l D ty ρ N0 yX6_isRefused (Cond.code yX6_isRefused cX6_isRefused 5 (some .boolean) :: GW) (rmk 5 0 0) [.ref (ρ 0 0), .int a1, .int a2, .int a3, .int a4] σ (oI r.1) r.2 := by
  refine am_enter S (by decide) rfl rfl (Nat.le_of_ble_eq_true rfl) ?_
  intro p e s m args below meth c K hX
  have dq := @tat _ _ dt_X6_isRefused
  unfold p_X6_isRefused at h
  show WA p l e _ s m args below meth c D ty ρ N0 5 _ 0 [some (.ref (ρ 0 0)), some (.int a1), some (.int a2), some (.int a3), some (.int a4)] [] σ 0 0
  refine a_iload_n K (dq 0 rfl) rfl rfl ?_
  by_cases c1 : a1 = 99
  · have h := ite_t c1 h
    refine a_tableIn K (off := 100) (tgt := 101) (dq 1 rfl) (by rw [c1]; decide) (by rw [c1]; decide) (by rw [c1]; rfl) rfl ?_
    refine a_aload_n K (dq 11 rfl) rfl rfl ?_
    refine a_iload_n K (dq 12 rfl) rfl rfl ?_
    refine a_iload_n K (dq 13 rfl) rfl rfl ?_
    obtain ⟨r2, h2, h⟩ := bnd h
    refine a_callVi K (s_X6_refusesToGiveUp S a2 a3  σ r2 h2) v_0 rfl rfl cw_X6_refusesToGiveUp ml_X6_350 (by decide) rfl (rest := []) rfl (Nat.le_of_ble_eq_true rfl) (dq 14 rfl) (by decide) ?_
    obtain rfl := Option.some.inj h
    exact a_iret K rfl rfl (dq 15 rfl) (Nat.le_of_ble_eq_true rfl) (Nat.le_of_ble_eq_true rfl) rfl rfl
  · have h := ite_f c1 h
    by_cases c3 : a1 = 101
    · have h := ite_t c3 h
      refine a_tableIn K (off := 113) (tgt := 114) (dq 1 rfl) (by rw [c3]; decide) (by rw [c3]; decide) (by rw [c3]; rfl) rfl ?_
      refine a_aload_n K (dq 20 rfl) rfl rfl ?_
      refine a_iload_n K (dq 21 rfl) rfl rfl ?_
      obtain ⟨r4, h4, h⟩ := bnd h
      refine a_callVi K (s_X6_refusesFarm S a2  σ r4 h4) v_0 rfl rfl cw_X6_refusesFarm ml_X6_356 (by decide) rfl (rest := []) rfl (Nat.le_of_ble_eq_true rfl) (dq 22 rfl) (by decide) ?_
      obtain rfl := Option.some.inj h
      exact a_iret K rfl rfl (dq 23 rfl) (Nat.le_of_ble_eq_true rfl) (Nat.le_of_ble_eq_true rfl) rfl rfl
    · have h := ite_f c3 h
      by_cases c5 : a1 = 102
      · have h := ite_t c5 h
        refine a_tableIn K (off := 87) (tgt := 88) (dq 1 rfl) (by rw [c5]; decide) (by rw [c5]; decide) (by rw [c5]; rfl) rfl ?_
        refine a_aload_n K (dq 2 rfl) rfl rfl ?_
        refine a_iload_n K (dq 3 rfl) rfl rfl ?_
        obtain ⟨r6, h6, h⟩ := bnd h
        refine a_callVi K (s_X6_refusesToBuild S a2  σ r6 h6) v_0 rfl rfl cw_X6_refusesToBuild ml_X6_344 (by decide) rfl (rest := []) rfl (Nat.le_of_ble_eq_true rfl) (dq 4 rfl) (by decide) ?_
        obtain rfl := Option.some.inj h
        exact a_iret K rfl rfl (dq 5 rfl) (Nat.le_of_ble_eq_true rfl) (Nat.le_of_ble_eq_true rfl) rfl rfl
      · have h := ite_f c5 h
        by_cases c7 : a1 = 108
        · have h := ite_t c7 h
          refine a_tableIn K (off := 93) (tgt := 94) (dq 1 rfl) (by rw [c7]; decide) (by rw [c7]; decide) (by rw [c7]; rfl) rfl ?_
          refine a_aload_n K (dq 6 rfl) rfl rfl ?_
          refine a_iload_n K (dq 7 rfl) rfl rfl ?_
          refine a_iload_n K (dq 8 rfl) rfl rfl ?_
          obtain ⟨r8, h8, h⟩ := bnd h
          refine a_callVi K (s_X6_refusesToLay S a2 a3  σ r8 h8) v_0 rfl rfl cw_X6_refusesToLay ml_X6_347 (by decide) rfl (rest := []) rfl (Nat.le_of_ble_eq_true rfl) (dq 9 rfl) (by decide) ?_
          obtain rfl := Option.some.inj h
          exact a_iret K rfl rfl (dq 10 rfl) (Nat.le_of_ble_eq_true rfl) (Nat.le_of_ble_eq_true rfl) rfl rfl
        · have h := ite_f c7 h
          by_cases c9 : a1 = 114
          · have h := ite_t c9 h
            refine a_tableIn K (off := 107) (tgt := 108) (dq 1 rfl) (by rw [c9]; decide) (by rw [c9]; decide) (by rw [c9]; rfl) rfl ?_
            refine a_aload_n K (dq 16 rfl) rfl rfl ?_
            refine a_iload_n K (dq 17 rfl) rfl rfl ?_
            obtain ⟨r10, h10, h⟩ := bnd h
            refine a_callVi K (s_X6_refusesToRoot S a2  σ r10 h10) v_0 rfl rfl cw_X6_refusesToRoot ml_X6_353 (by decide) rfl (rest := []) rfl (Nat.le_of_ble_eq_true rfl) (dq 18 rfl) (by decide) ?_
            obtain rfl := Option.some.inj h
            exact a_iret K rfl rfl (dq 19 rfl) (Nat.le_of_ble_eq_true rfl) (Nat.le_of_ble_eq_true rfl) rfl rfl
          · have h := ite_f c9 h
            by_cases c11 : a1 = 116
            · have h := ite_t c11 h
              refine a_tableIn K (off := 119) (tgt := 120) (dq 1 rfl) (by rw [c11]; decide) (by rw [c11]; decide) (by rw [c11]; rfl) rfl ?_
              refine a_aload_n K (dq 24 rfl) rfl rfl ?_
              refine a_iload_n K (dq 25 rfl) rfl rfl ?_
              refine a_iload_n K (dq 26 rfl) rfl rfl ?_
              refine a_iload K (dq 27 rfl) rfl ?_
              obtain ⟨r12, h12, h⟩ := bnd h
              refine a_callVi K (s_X6_refusesToCharge S a2 a3 a4  σ r12 h12) v_0 rfl rfl cw_X6_refusesToCharge ml_X6_359 (by decide) rfl (rest := []) rfl (Nat.le_of_ble_eq_true rfl) (dq 28 rfl) (by decide) ?_
              obtain rfl := Option.some.inj h
              exact a_iret K rfl rfl (dq 29 rfl) (Nat.le_of_ble_eq_true rfl) (Nat.le_of_ble_eq_true rfl) rfl rfl
            · have h := ite_f c11 h
              refine a_tableD K (tgt := 129) (dq 1 rfl) ?_ rfl ?_
              · have := i32ne c1 (k := 99) (by decide); have := i32ne c3 (k := 101) (by decide); have := i32ne c5 (k := 102) (by decide); have := i32ne c7 (k := 108) (by decide); have := i32ne c9 (k := 114) (by decide); have := i32ne c11 (k := 116) (by decide)
                have hz : (a1).toInt < 99 ∨ 116 < (a1).toInt ∨ (a1).toInt = 100 ∨ (a1).toInt = 103 ∨ (a1).toInt = 104 ∨ (a1).toInt = 105 ∨ (a1).toInt = 106 ∨ (a1).toInt = 107 ∨ (a1).toInt = 109 ∨ (a1).toInt = 110 ∨ (a1).toInt = 111 ∨ (a1).toInt = 112 ∨ (a1).toInt = 113 ∨ (a1).toInt = 115 := by omega
                rcases hz with q | q | q | q | q | q | q | q | q | q | q | q | q | q
                · exact Or.inl q
                · exact Or.inr (Or.inl q)
                · rw [q]; exact Or.inr (Or.inr rfl)
                · rw [q]; exact Or.inr (Or.inr rfl)
                · rw [q]; exact Or.inr (Or.inr rfl)
                · rw [q]; exact Or.inr (Or.inr rfl)
                · rw [q]; exact Or.inr (Or.inr rfl)
                · rw [q]; exact Or.inr (Or.inr rfl)
                · rw [q]; exact Or.inr (Or.inr rfl)
                · rw [q]; exact Or.inr (Or.inr rfl)
                · rw [q]; exact Or.inr (Or.inr rfl)
                · rw [q]; exact Or.inr (Or.inr rfl)
                · rw [q]; exact Or.inr (Or.inr rfl)
                · rw [q]; exact Or.inr (Or.inr rfl)
              refine a_aload_n K (dq 30 rfl) rfl rfl ?_
              refine a_iload_n K (dq 31 rfl) rfl rfl ?_
              refine a_iload_n K (dq 32 rfl) rfl rfl ?_
              obtain ⟨r13, h13, h⟩ := bnd h
              refine a_callVi K (s_X6_refusesToDrive S a2 a3  σ r13 h13) v_0 rfl rfl cw_X6_refusesToDrive ml_X6_363 (by decide) rfl (rest := []) rfl (Nat.le_of_ble_eq_true rfl) (dq 33 rfl) (by decide) ?_
              obtain rfl := Option.some.inj h
              exact a_iret K rfl rfl (dq 34 rfl) (Nat.le_of_ble_eq_true rfl) (Nat.le_of_ble_eq_true rfl) rfl rfl
def t_X6_carryOut : List (Nat × Instr × Nat) := [(0, .iload_n 1, 1), (1, .tableswitch 131 99 116 #[103, 131, 116, 87, 131, 131, 131, 131, 131, 96, 131, 131, 131, 131, 131, 110, 131, 122], 87), (88, .aload_n 0, 1), (89, .getfield 10, 3), (92, .iload_n 2, 1), (93, .invokevirtual 366, 3), (96, .ireturn, 1), (97, .aload_n 0, 1), (98, .iload_n 2, 1), (99, .iload_n 3, 1), (100, .invokevirtual 369, 3), (103, .ireturn, 1), (104, .aload_n 0, 1), (105, .iload_n 2, 1), (106, .iload_n 3, 1), (107, .invokevirtual 372, 3), (110, .ireturn, 1), (111, .aload_n 0, 1), (112, .iload_n 2, 1), (113, .invokevirtual 375, 3), (116, .ireturn, 1), (117, .aload_n 0, 1), (118, .iload_n 2, 1), (119, .invokevirtual 378, 3), (122, .ireturn, 1), (123, .aload_n 0, 1), (124, .iload_n 2, 1), (125, .iload_n 3, 1), (126, .iload 4, 2), (128, .invokevirtual 381, 3), (131, .ireturn, 1), (132, .aload_n 0, 1), (133, .iload_n 2, 1), (134, .iload_n 3, 1), (135, .invokevirtual 385, 3), (138, .ireturn, 1)]
theorem dt_X6_carryOut : tblOK cX6_carryOut t_X6_carryOut = true := by decide +kernel
def p_X6_carryOut (a1 : Int32) (a2 : Int32) (a3 : Int32) (a4 : Int32) (σ : Sg) : Option (Int32 × Sg) :=
  if a1 = 99 then ((p_X6_giveTrackUp a2 a3 σ).bind fun r2 => some (r2.1, r2.2)) else (if a1 = 101 then ((p_X6_exposeFarm a2 σ).bind fun r4 => some (r4.1, r4.2)) else (if a1 = 102 then ((p_X1_build a2 σ).bind fun r6 => some (r6.1, r6.2)) else (if a1 = 108 then ((p_X6_layTrack a2 a3 σ).bind fun r8 => some (r8.1, r8.2)) else (if a1 = 114 then ((p_X6_rootAnew a2 σ).bind fun r10 => some (r10.1, r10.2)) else (if a1 = 116 then ((p_X6_chargeWay a2 a3 a4 σ).bind fun r12 => some (r12.1, r12.2)) else ((p_X6_driveTo a2 a3 σ).bind fun r13 => some (r13.1, r13.2)))))))
set_option maxRecDepth 20000 in
set_option maxHeartbeats 1000000 in
theorem s_X6_carryOut {l : Launch} {D : va_G} {ty : Nat → ClassId} {ρ : Nat → Nat → Nat} {N0 : Nat} (S : St l ty ρ N0) (a1 : Int32) (a2 : Int32) (a3 : Int32) (a4 : Int32)  (σ : Sg) (r : (Int32 × Sg)) (h : p_X6_carryOut a1 a2 a3 a4 σ = some r) : AMet l D ty ρ N0 yX6_carryOut (Cond.code yX6_carryOut cX6_carryOut 5 (some .int) :: GW) (rmk 5 0 0) [.ref (ρ 0 0), .int a1, .int a2, .int a3, .int a4] σ (oI r.1) r.2 := by
  refine am_enter S (by decide) rfl rfl (Nat.le_of_ble_eq_true rfl) ?_
  intro p e s m args below meth c K hX
  have dq := @tat _ _ dt_X6_carryOut
  unfold p_X6_carryOut at h
  show WA p l e _ s m args below meth c D ty ρ N0 5 _ 0 [some (.ref (ρ 0 0)), some (.int a1), some (.int a2), some (.int a3), some (.int a4)] [] σ 0 0
  refine a_iload_n K (dq 0 rfl) rfl rfl ?_
  by_cases c1 : a1 = 99
  · have h := ite_t c1 h
    refine a_tableIn K (off := 103) (tgt := 104) (dq 1 rfl) (by rw [c1]; decide) (by rw [c1]; decide) (by rw [c1]; rfl) rfl ?_
    refine a_aload_n K (dq 12 rfl) rfl rfl ?_
    refine a_iload_n K (dq 13 rfl) rfl rfl ?_
    refine a_iload_n K (dq 14 rfl) rfl rfl ?_
    obtain ⟨r2, h2, h⟩ := bnd h
    refine a_callVi K (s_X6_giveTrackUp S a2 a3  σ r2 h2) v_0 rfl rfl cw_X6_giveTrackUp ml_X6_372 (by decide) rfl (rest := []) rfl (Nat.le_of_ble_eq_true rfl) (dq 15 rfl) (by decide) ?_
    obtain rfl := Option.some.inj h
    exact a_iret K rfl rfl (dq 16 rfl) (Nat.le_of_ble_eq_true rfl) (Nat.le_of_ble_eq_true rfl) rfl rfl
  · have h := ite_f c1 h
    by_cases c3 : a1 = 101
    · have h := ite_t c3 h
      refine a_tableIn K (off := 116) (tgt := 117) (dq 1 rfl) (by rw [c3]; decide) (by rw [c3]; decide) (by rw [c3]; rfl) rfl ?_
      refine a_aload_n K (dq 21 rfl) rfl rfl ?_
      refine a_iload_n K (dq 22 rfl) rfl rfl ?_
      obtain ⟨r4, h4, h⟩ := bnd h
      refine a_callVi K (s_X6_exposeFarm S a2  σ r4 h4) v_0 rfl rfl cw_X6_exposeFarm ml_X6_378 (by decide) rfl (rest := []) rfl (Nat.le_of_ble_eq_true rfl) (dq 23 rfl) (by decide) ?_
      obtain rfl := Option.some.inj h
      exact a_iret K rfl rfl (dq 24 rfl) (Nat.le_of_ble_eq_true rfl) (Nat.le_of_ble_eq_true rfl) rfl rfl
    · have h := ite_f c3 h
      by_cases c5 : a1 = 102
      · have h := ite_t c5 h
        refine a_tableIn K (off := 87) (tgt := 88) (dq 1 rfl) (by rw [c5]; decide) (by rw [c5]; decide) (by rw [c5]; rfl) rfl ?_
        refine a_aload_n K (dq 2 rfl) rfl rfl ?_
        refine a_get K (T := 0) (i := 0) (k := 0) (v := .ref (ρ 1 0)) v_0 rfl rfl in_X6 (Nat.le_of_ble_eq_true rfl) fl_X6_10 rfl (dq 3 rfl) ?_
        refine a_iload_n K (dq 4 rfl) rfl rfl ?_
        obtain ⟨r6, h6, h⟩ := bnd h
        refine a_callVi K (s_X1_build S a2  σ r6 h6) v_1 rfl rfl cw_X1_build ml_X6_366 (by decide) rfl (rest := []) rfl (Nat.le_of_ble_eq_true rfl) (dq 5 rfl) (by decide) ?_
        obtain rfl := Option.some.inj h
        exact a_iret K rfl rfl (dq 6 rfl) (Nat.le_of_ble_eq_true rfl) (Nat.le_of_ble_eq_true rfl) rfl rfl
      · have h := ite_f c5 h
        by_cases c7 : a1 = 108
        · have h := ite_t c7 h
          refine a_tableIn K (off := 96) (tgt := 97) (dq 1 rfl) (by rw [c7]; decide) (by rw [c7]; decide) (by rw [c7]; rfl) rfl ?_
          refine a_aload_n K (dq 7 rfl) rfl rfl ?_
          refine a_iload_n K (dq 8 rfl) rfl rfl ?_
          refine a_iload_n K (dq 9 rfl) rfl rfl ?_
          obtain ⟨r8, h8, h⟩ := bnd h
          refine a_callVi K (s_X6_layTrack S a2 a3  σ r8 h8) v_0 rfl rfl cw_X6_layTrack ml_X6_369 (by decide) rfl (rest := []) rfl (Nat.le_of_ble_eq_true rfl) (dq 10 rfl) (by decide) ?_
          obtain rfl := Option.some.inj h
          exact a_iret K rfl rfl (dq 11 rfl) (Nat.le_of_ble_eq_true rfl) (Nat.le_of_ble_eq_true rfl) rfl rfl
        · have h := ite_f c7 h
          by_cases c9 : a1 = 114
          · have h := ite_t c9 h
            refine a_tableIn K (off := 110) (tgt := 111) (dq 1 rfl) (by rw [c9]; decide) (by rw [c9]; decide) (by rw [c9]; rfl) rfl ?_
            refine a_aload_n K (dq 17 rfl) rfl rfl ?_
            refine a_iload_n K (dq 18 rfl) rfl rfl ?_
            obtain ⟨r10, h10, h⟩ := bnd h
            refine a_callVi K (s_X6_rootAnew S a2  σ r10 h10) v_0 rfl rfl cw_X6_rootAnew ml_X6_375 (by decide) rfl (rest := []) rfl (Nat.le_of_ble_eq_true rfl) (dq 19 rfl) (by decide) ?_
            obtain rfl := Option.some.inj h
            exact a_iret K rfl rfl (dq 20 rfl) (Nat.le_of_ble_eq_true rfl) (Nat.le_of_ble_eq_true rfl) rfl rfl
          · have h := ite_f c9 h
            by_cases c11 : a1 = 116
            · have h := ite_t c11 h
              refine a_tableIn K (off := 122) (tgt := 123) (dq 1 rfl) (by rw [c11]; decide) (by rw [c11]; decide) (by rw [c11]; rfl) rfl ?_
              refine a_aload_n K (dq 25 rfl) rfl rfl ?_
              refine a_iload_n K (dq 26 rfl) rfl rfl ?_
              refine a_iload_n K (dq 27 rfl) rfl rfl ?_
              refine a_iload K (dq 28 rfl) rfl ?_
              obtain ⟨r12, h12, h⟩ := bnd h
              refine a_callVi K (s_X6_chargeWay S a2 a3 a4  σ r12 h12) v_0 rfl rfl cw_X6_chargeWay ml_X6_381 (by decide) rfl (rest := []) rfl (Nat.le_of_ble_eq_true rfl) (dq 29 rfl) (by decide) ?_
              obtain rfl := Option.some.inj h
              exact a_iret K rfl rfl (dq 30 rfl) (Nat.le_of_ble_eq_true rfl) (Nat.le_of_ble_eq_true rfl) rfl rfl
            · have h := ite_f c11 h
              refine a_tableD K (tgt := 132) (dq 1 rfl) ?_ rfl ?_
              · have := i32ne c1 (k := 99) (by decide); have := i32ne c3 (k := 101) (by decide); have := i32ne c5 (k := 102) (by decide); have := i32ne c7 (k := 108) (by decide); have := i32ne c9 (k := 114) (by decide); have := i32ne c11 (k := 116) (by decide)
                have hz : (a1).toInt < 99 ∨ 116 < (a1).toInt ∨ (a1).toInt = 100 ∨ (a1).toInt = 103 ∨ (a1).toInt = 104 ∨ (a1).toInt = 105 ∨ (a1).toInt = 106 ∨ (a1).toInt = 107 ∨ (a1).toInt = 109 ∨ (a1).toInt = 110 ∨ (a1).toInt = 111 ∨ (a1).toInt = 112 ∨ (a1).toInt = 113 ∨ (a1).toInt = 115 := by omega
                rcases hz with q | q | q | q | q | q | q | q | q | q | q | q | q | q
                · exact Or.inl q
                · exact Or.inr (Or.inl q)
                · rw [q]; exact Or.inr (Or.inr rfl)
                · rw [q]; exact Or.inr (Or.inr rfl)
                · rw [q]; exact Or.inr (Or.inr rfl)
                · rw [q]; exact Or.inr (Or.inr rfl)
                · rw [q]; exact Or.inr (Or.inr rfl)
                · rw [q]; exact Or.inr (Or.inr rfl)
                · rw [q]; exact Or.inr (Or.inr rfl)
                · rw [q]; exact Or.inr (Or.inr rfl)
                · rw [q]; exact Or.inr (Or.inr rfl)
                · rw [q]; exact Or.inr (Or.inr rfl)
                · rw [q]; exact Or.inr (Or.inr rfl)
                · rw [q]; exact Or.inr (Or.inr rfl)
              refine a_aload_n K (dq 31 rfl) rfl rfl ?_
              refine a_iload_n K (dq 32 rfl) rfl rfl ?_
              refine a_iload_n K (dq 33 rfl) rfl rfl ?_
              obtain ⟨r13, h13, h⟩ := bnd h
              refine a_callVi K (s_X6_driveTo S a2 a3  σ r13 h13) v_0 rfl rfl cw_X6_driveTo ml_X6_385 (by decide) rfl (rest := []) rfl (Nat.le_of_ble_eq_true rfl) (dq 34 rfl) (by decide) ?_
              obtain rfl := Option.some.inj h
              exact a_iret K rfl rfl (dq 35 rfl) (Nat.le_of_ble_eq_true rfl) (Nat.le_of_ble_eq_true rfl) rfl rfl
