theorem fl_X7_7 : Cond.fieldLink RX7 7 (TX7 0).1 (TX7 0).2.1 (TX7 0).2.2.1 ∈ GW := gwp 1130 (by decide +kernel) rfl
theorem fl_X7_13 : Cond.fieldLink RX7 13 (TX7 1).1 (TX7 1).2.1 (TX7 1).2.2.1 ∈ GW := gwp 1131 (by decide +kernel) rfl
theorem fl_X7_16 : Cond.fieldLink RX7 16 (TX7 2).1 (TX7 2).2.1 (TX7 2).2.2.1 ∈ GW := gwp 1132 (by decide +kernel) rfl
theorem fl_X7_19 : Cond.fieldLink RX7 19 (TX7 3).1 (TX7 3).2.1 (TX7 3).2.2.1 ∈ GW := gwp 1133 (by decide +kernel) rfl
theorem fl_X7_22 : Cond.fieldLink RX7 22 (TX7 12).1 (TX7 12).2.1 (TX7 12).2.2.1 ∈ GW := gwp 1142 (by decide +kernel) rfl
theorem fl_X7_25 : Cond.fieldLink RX7 25 (TX7 14).1 (TX7 14).2.1 (TX7 14).2.2.1 ∈ GW := gwp 1144 (by decide +kernel) rfl
theorem fl_X7_29 : Cond.fieldLink RX7 29 (TX7 15).1 (TX7 15).2.1 (TX7 15).2.2.1 ∈ GW := gwp 1145 (by decide +kernel) rfl
theorem fl_X7_33 : Cond.fieldLink RX7 33 (TX7 17).1 (TX7 17).2.1 (TX7 17).2.2.1 ∈ GW := gwp 1147 (by decide +kernel) rfl
theorem fl_X7_36 : Cond.fieldLink RX7 36 (TX7 20).1 (TX7 20).2.1 (TX7 20).2.2.1 ∈ GW := gwp 1150 (by decide +kernel) rfl
theorem fl_X7_39 : Cond.fieldLink RX7 39 (TX7 8).1 (TX7 8).2.1 (TX7 8).2.2.1 ∈ GW := gwp 1138 (by decide +kernel) rfl
theorem fl_X7_42 : Cond.fieldLink RX7 42 (TX7 9).1 (TX7 9).2.1 (TX7 9).2.2.1 ∈ GW := gwp 1139 (by decide +kernel) rfl
theorem fl_X7_45 : Cond.fieldLink RX7 45 (TX7 10).1 (TX7 10).2.1 (TX7 10).2.2.1 ∈ GW := gwp 1140 (by decide +kernel) rfl
theorem fl_X7_48 : Cond.fieldLink RX7 48 (TX7 6).1 (TX7 6).2.1 (TX7 6).2.2.1 ∈ GW := gwp 1136 (by decide +kernel) rfl
theorem fl_X7_52 : Cond.fieldLink RX7 52 (TX7 7).1 (TX7 7).2.1 (TX7 7).2.2.1 ∈ GW := gwp 1137 (by decide +kernel) rfl
theorem fl_X7_55 : Cond.fieldLink RX7 55 (TX7 11).1 (TX7 11).2.1 (TX7 11).2.2.1 ∈ GW := gwp 1141 (by decide +kernel) rfl
theorem fl_X7_58 : Cond.fieldLink RX7 58 (TX7 5).1 (TX7 5).2.1 (TX7 5).2.2.1 ∈ GW := gwp 1135 (by decide +kernel) rfl
theorem fl_X7_87 : Cond.fieldLink RX7 87 (TX7 18).1 (TX7 18).2.1 (TX7 18).2.2.1 ∈ GW := gwp 1148 (by decide +kernel) rfl
theorem fl_X7_170 : Cond.fieldLink RX7 170 (TX7 13).1 (TX7 13).2.1 (TX7 13).2.2.1 ∈ GW := gwp 1143 (by decide +kernel) rfl
theorem fl_X7_173 : Cond.fieldLink RX7 173 (TX7 19).1 (TX7 19).2.1 (TX7 19).2.2.1 ∈ GW := gwp 1149 (by decide +kernel) rfl
theorem fl_X7_189 : Cond.fieldLink RX7 189 (TX7 21).1 (TX7 21).2.1 (TX7 21).2.2.1 ∈ GW := gwp 1151 (by decide +kernel) rfl
theorem fl_X7_227 : Cond.fieldLink RX7 227 (TX7 16).1 (TX7 16).2.1 (TX7 16).2.2.1 ∈ GW := gwp 1146 (by decide +kernel) rfl
theorem fl_X7_254 : Cond.fieldLink RX7 254 (TX7 4).1 (TX7 4).2.1 (TX7 4).2.2.1 ∈ GW := gwp 1134 (by decide +kernel) rfl
theorem ml_X7_61 : Cond.methodLink RX7 61 yX7_copies ∈ GW := gwp 1216 (by decide +kernel) rfl
theorem ml_X7_65 : Cond.methodLink RX7 65 yX7_in ∈ GW := gwp 1205 (by decide +kernel) rfl
theorem ml_X7_69 : Cond.methodLink RX7 69 yX7_parent ∈ GW := gwp 1243 (by decide +kernel) rfl
theorem ml_X7_73 : Cond.methodLink RX7 73 yX7_rootOf ∈ GW := gwp 1239 (by decide +kernel) rfl
theorem ml_X7_76 : Cond.methodLink RX7 76 yX7_areJoined ∈ GW := gwp 1235 (by decide +kernel) rfl
theorem ml_X7_80 : Cond.methodLink RX7 80 yX7_liesBehind ∈ GW := gwp 1255 (by decide +kernel) rfl
theorem ml_X7_83 : Cond.methodLink RX7 83 yX7_meetOf ∈ GW := gwp 1251 (by decide +kernel) rfl
theorem ml_X7_90 : Cond.methodLink RX7 90 yX7_depth ∈ GW := gwp 1259 (by decide +kernel) rfl
theorem ml_X7_93 : Cond.methodLink RX7 93 yX7_toll ∈ GW := gwp 1311 (by decide +kernel) rfl
theorem ml_X7_96 : Cond.methodLink RX7 96 yX7_refuses ∈ GW := gwp 1208 (by decide +kernel) rfl
theorem ml_X7_99 : Cond.methodLink RX7 99 yX7_keeps ∈ GW := gwp 1212 (by decide +kernel) rfl
theorem ml_X7_103 : Cond.methodLink RX7 103 yX7_isFarm ∈ GW := gwp 1227 (by decide +kernel) rfl
theorem ml_X7_107 : Cond.methodLink RX7 107 yX7_areFarms ∈ GW := gwp 1223 (by decide +kernel) rfl
theorem ml_X7_110 : Cond.methodLink RX7 110 yX7_noFarm ∈ GW := gwp 1231 (by decide +kernel) rfl
theorem ml_X7_113 : Cond.methodLink RX7 113 yX7_goes ∈ GW := gwp 1247 (by decide +kernel) rfl
theorem ml_X7_117 : Cond.methodLink RX7 117 yX7_roots ∈ GW := gwp 1263 (by decide +kernel) rfl
theorem ml_X7_121 : Cond.methodLink RX7 121 yX7_sizeOf ∈ GW := gwp 1267 (by decide +kernel) rfl
theorem ml_X7_124 : Cond.methodLink RX7 124 yX7_isLaid ∈ GW := gwp 1275 (by decide +kernel) rfl
theorem ml_X7_127 : Cond.methodLink RX7 127 yX7_childOf ∈ GW := gwp 1279 (by decide +kernel) rfl
theorem ml_X7_130 : Cond.methodLink RX7 130 yX7_prefers ∈ GW := gwp 1283 (by decide +kernel) rfl
theorem ml_X7_133 : Cond.methodLink RX7 133 yX7_exposes ∈ GW := gwp 1299 (by decide +kernel) rfl
theorem ml_X7_137 : Cond.methodLink RX7 137 yX7_counted ∈ GW := gwp 1295 (by decide +kernel) rfl
theorem ml_X7_140 : Cond.methodLink RX7 140 yX7_tooMuch ∈ GW := gwp 1307 (by decide +kernel) rfl
theorem ml_X7_143 : Cond.methodLink RX7 143 yX7_pathToll ∈ GW := gwp 1315 (by decide +kernel) rfl
theorem ml_X7_146 : Cond.methodLink RX7 146 yX7_fails ∈ GW := gwp 1327 (by decide +kernel) rfl
theorem ml_X7_149 : Cond.methodLink RX7 149 yX7_children ∈ GW := gwp 1331 (by decide +kernel) rfl
theorem ml_X7_152 : Cond.methodLink RX7 152 yX7_behind ∈ GW := gwp 1335 (by decide +kernel) rfl
theorem ml_X7_155 : Cond.methodLink RX7 155 yX7_isNoWay ∈ GW := gwp 1343 (by decide +kernel) rfl
theorem ml_X7_158 : Cond.methodLink RX7 158 yX7_sum ∈ GW := gwp 1367 (by decide +kernel) rfl
theorem ml_X7_161 : Cond.methodLink RX7 161 yX7_tracks ∈ GW := gwp 1404 (by decide +kernel) rfl
theorem ml_X7_164 : Cond.methodLink RX7 164 yX7_farthestOf ∈ GW := gwp 1400 (by decide +kernel) rfl
theorem ml_X7_167 : Cond.methodLink RX7 167 yX7_isAhead ∈ GW := gwp 1424 (by decide +kernel) rfl
theorem ml_X7_176 : Cond.methodLink RX7 176 yX7_here ∈ GW := gwp 1444 (by decide +kernel) rfl
theorem ml_X7_180 : Cond.methodLink RX7 180 yX7_figures ∈ GW := gwp 1452 (by decide +kernel) rfl
theorem ml_X7_183 : Cond.methodLink RX7 183 yX7_skips ∈ GW := gwp 1448 (by decide +kernel) rfl
theorem ml_X7_186 : Cond.methodLink RX7 186 yX7_twoHere ∈ GW := gwp 1456 (by decide +kernel) rfl
theorem ml_X7_192 : Cond.methodLink RX7 192 yX7_tollHere ∈ GW := gwp 1460 (by decide +kernel) rfl
theorem ml_X7_195 : Cond.methodLink RX7 195 yX7_commandHere ∈ GW := gwp 1440 (by decide +kernel) rfl
theorem ml_X7_199 : Cond.methodLink RX7 199 yX7_farm ∈ GW := gwp 1468 (by decide +kernel) rfl
theorem ml_X7_202 : Cond.methodLink RX7 202 yX7_lay ∈ GW := gwp 1469 (by decide +kernel) rfl
theorem ml_X7_205 : Cond.methodLink RX7 205 yX7_giveUp ∈ GW := gwp 1470 (by decide +kernel) rfl
theorem ml_X7_208 : Cond.methodLink RX7 208 yX7_root ∈ GW := gwp 1471 (by decide +kernel) rfl
theorem ml_X7_211 : Cond.methodLink RX7 211 yX7_expose ∈ GW := gwp 1472 (by decide +kernel) rfl
theorem ml_X7_214 : Cond.methodLink RX7 214 yX7_charge ∈ GW := gwp 1473 (by decide +kernel) rfl
theorem ml_X7_218 : Cond.methodLink RX7 218 yX7_drive ∈ GW := gwp 1474 (by decide +kernel) rfl
theorem ml_X7_221 : Cond.methodLink RX7 221 yX7_isText ∈ GW := gwp 1436 (by decide +kernel) rfl
theorem ml_X7_224 : Cond.methodLink RX7 224 yX7_carries ∈ GW := gwp 1464 (by decide +kernel) rfl
theorem ml_X7_230 : Cond.methodLink RX7 230 yX7_writes ∈ GW := gwp 1487 (by decide +kernel) rfl
theorem ml_X7_233 : Cond.methodLink RX7 233 yX7_writesNumber ∈ GW := gwp 1491 (by decide +kernel) rfl
theorem ml_X7_239 : Cond.methodLink RX7 239 yX7_tolls ∈ GW := gwp 1511 (by decide +kernel) rfl
theorem ml_X7_248 : Cond.methodLink RX7 248 yX7_treesNow ∈ GW := gwp 1533 (by decide +kernel) rfl
theorem ml_X7_251 : Cond.methodLink RX7 251 yX7_preferring ∈ GW := gwp 1537 (by decide +kernel) rfl
theorem cw_X7_areFarms : CwV RX7 yX7_areFarms cX7_areFarms 3 (some .boolean) 2 := ⟨gwp 1226 (by decide +kernel) rfl, gwp 1225 (by decide +kernel) rfl, gws (q := (yX7_areFarms, 22)) 32 (by decide +kernel), gwp 9 (by decide +kernel) rfl, by decide +kernel⟩
theorem cw_X7_areJoined : CwV RX7 yX7_areJoined cX7_areJoined 3 (some .boolean) 2 := ⟨gwp 1238 (by decide +kernel) rfl, gwp 1237 (by decide +kernel) rfl, gws (q := (yX7_areJoined, 22)) 35 (by decide +kernel), gwp 9 (by decide +kernel) rfl, by decide +kernel⟩
theorem cw_X7_behind : CwV RX7 yX7_behind cX7_behind 4 (some .int) 1 := ⟨gwp 1338 (by decide +kernel) rfl, gwp 1337 (by decide +kernel) rfl, gws (q := (yX7_behind, 22)) 54 (by decide +kernel), gwp 9 (by decide +kernel) rfl, by decide +kernel⟩
theorem cw_X7_carries : CwV RX7 yX7_carries cX7_carries 2 (some .int) 1 := ⟨gwp 1467 (by decide +kernel) rfl, gwp 1466 (by decide +kernel) rfl, gws (q := (yX7_carries, 22)) 66 (by decide +kernel), gwp 9 (by decide +kernel) rfl, by decide +kernel⟩
theorem cw_X7_charge : CwV RX7 yX7_charge cX7_charge 6 (some .int) 3 := ⟨gwp 1306 (by decide +kernel) rfl, gwp 1304 (by decide +kernel) rfl, gwp 1305 (by decide +kernel) rfl, gwp 9 (by decide +kernel) rfl, by decide +kernel⟩
theorem cw_X7_childOf : CwV RX7 yX7_childOf cX7_childOf 3 (some .int) 2 := ⟨gwp 1282 (by decide +kernel) rfl, gwp 1281 (by decide +kernel) rfl, gws (q := (yX7_childOf, 22)) 45 (by decide +kernel), gwp 9 (by decide +kernel) rfl, by decide +kernel⟩
theorem cw_X7_children : CwV RX7 yX7_children cX7_children 4 (some .int) 1 := ⟨gwp 1334 (by decide +kernel) rfl, gwp 1333 (by decide +kernel) rfl, gws (q := (yX7_children, 22)) 53 (by decide +kernel), gwp 9 (by decide +kernel) rfl, by decide +kernel⟩
theorem cw_X7_commandHere : CwV RX7 yX7_commandHere cX7_commandHere 2 (some .boolean) 0 := ⟨gwp 1443 (by decide +kernel) rfl, gwp 1442 (by decide +kernel) rfl, gws (q := (yX7_commandHere, 22)) 60 (by decide +kernel), gwp 9 (by decide +kernel) rfl, by decide +kernel⟩
theorem cw_X7_copies : CwS RX7 yX7_copies cX7_copies 5 none 4 := ⟨gwp 1218 (by decide +kernel) rfl, gwp 1217 (by decide +kernel) rfl, gwp 9 (by decide +kernel) rfl, by decide +kernel⟩
theorem cw_X7_counted : CwV RX7 yX7_counted cX7_counted 3 (some .int) 1 := ⟨gwp 1298 (by decide +kernel) rfl, gwp 1297 (by decide +kernel) rfl, gws (q := (yX7_counted, 22)) 47 (by decide +kernel), gwp 9 (by decide +kernel) rfl, by decide +kernel⟩
theorem cw_X7_depth : CwV RX7 yX7_depth cX7_depth 4 (some .int) 1 := ⟨gwp 1262 (by decide +kernel) rfl, gwp 1261 (by decide +kernel) rfl, gws (q := (yX7_depth, 22)) 41 (by decide +kernel), gwp 9 (by decide +kernel) rfl, by decide +kernel⟩
theorem cw_X7_drive : CwV RX7 yX7_drive cX7_drive 6 (some .int) 2 := ⟨gwp 1322 (by decide +kernel) rfl, gwp 1320 (by decide +kernel) rfl, gwp 1321 (by decide +kernel) rfl, gwp 9 (by decide +kernel) rfl, by decide +kernel⟩
theorem cw_X7_expose : CwV RX7 yX7_expose cX7_expose 2 (some .int) 1 := ⟨gwp 1294 (by decide +kernel) rfl, gwp 1292 (by decide +kernel) rfl, gwp 1293 (by decide +kernel) rfl, gwp 9 (by decide +kernel) rfl, by decide +kernel⟩
theorem cw_X7_exposes : CwV RX7 yX7_exposes cX7_exposes 6 (some .int) 2 := ⟨gwp 1302 (by decide +kernel) rfl, gwp 1301 (by decide +kernel) rfl, gws (q := (yX7_exposes, 22)) 48 (by decide +kernel), gwp 9 (by decide +kernel) rfl, by decide +kernel⟩
theorem cw_X7_fails : CwV RX7 yX7_fails cX7_fails 2 (some .boolean) 1 := ⟨gwp 1330 (by decide +kernel) rfl, gwp 1329 (by decide +kernel) rfl, gws (q := (yX7_fails, 22)) 52 (by decide +kernel), gwp 9 (by decide +kernel) rfl, by decide +kernel⟩
theorem cw_X7_farm : CwV RX7 yX7_farm cX7_farm 3 (some .int) 1 := ⟨gwp 1204 (by decide +kernel) rfl, gwp 1202 (by decide +kernel) rfl, gwp 1203 (by decide +kernel) rfl, gwp 9 (by decide +kernel) rfl, by decide +kernel⟩
theorem cw_X7_farthestOf : CwV RX7 yX7_farthestOf cX7_farthestOf 6 (some .int) 1 := ⟨gwp 1403 (by decide +kernel) rfl, gwp 1402 (by decide +kernel) rfl, gws (q := (yX7_farthestOf, 22)) 56 (by decide +kernel), gwp 9 (by decide +kernel) rfl, by decide +kernel⟩
theorem cw_X7_figures : CwV RX7 yX7_figures cX7_figures 4 (some .boolean) 2 := ⟨gwp 1455 (by decide +kernel) rfl, gwp 1454 (by decide +kernel) rfl, gws (q := (yX7_figures, 22)) 63 (by decide +kernel), gwp 9 (by decide +kernel) rfl, by decide +kernel⟩
theorem cw_X7_giveUp : CwV RX7 yX7_giveUp cX7_giveUp 5 (some .int) 2 := ⟨gwp 1274 (by decide +kernel) rfl, gwp 1272 (by decide +kernel) rfl, gwp 1273 (by decide +kernel) rfl, gwp 9 (by decide +kernel) rfl, by decide +kernel⟩
theorem cw_X7_goes : CwV RX7 yX7_goes cX7_goes 6 none 2 := ⟨gwp 1250 (by decide +kernel) rfl, gwp 1249 (by decide +kernel) rfl, gws (q := (yX7_goes, 22)) 38 (by decide +kernel), gwp 9 (by decide +kernel) rfl, by decide +kernel⟩
theorem cw_X7_here : CwV RX7 yX7_here cX7_here 1 (some .int) 0 := ⟨gwp 1447 (by decide +kernel) rfl, gwp 1446 (by decide +kernel) rfl, gws (q := (yX7_here, 22)) 61 (by decide +kernel), gwp 9 (by decide +kernel) rfl, by decide +kernel⟩
theorem cw_X7_in : CwS RX7 yX7_in cX7_in 3 (some .boolean) 3 := ⟨gwp 1207 (by decide +kernel) rfl, gwp 1206 (by decide +kernel) rfl, gwp 9 (by decide +kernel) rfl, by decide +kernel⟩
theorem cw_X7_isAhead : CwV RX7 yX7_isAhead cX7_isAhead 4 (some .boolean) 2 := ⟨gwp 1427 (by decide +kernel) rfl, gwp 1426 (by decide +kernel) rfl, gws (q := (yX7_isAhead, 22)) 58 (by decide +kernel), gwp 9 (by decide +kernel) rfl, by decide +kernel⟩
theorem cw_X7_isFarm : CwV RX7 yX7_isFarm cX7_isFarm 2 (some .boolean) 1 := ⟨gwp 1230 (by decide +kernel) rfl, gwp 1229 (by decide +kernel) rfl, gws (q := (yX7_isFarm, 22)) 33 (by decide +kernel), gwp 9 (by decide +kernel) rfl, by decide +kernel⟩
theorem cw_X7_isLaid : CwV RX7 yX7_isLaid cX7_isLaid 3 (some .boolean) 2 := ⟨gwp 1278 (by decide +kernel) rfl, gwp 1277 (by decide +kernel) rfl, gws (q := (yX7_isLaid, 22)) 44 (by decide +kernel), gwp 9 (by decide +kernel) rfl, by decide +kernel⟩
theorem cw_X7_isNoWay : CwV RX7 yX7_isNoWay cX7_isNoWay 3 (some .boolean) 2 := ⟨gwp 1346 (by decide +kernel) rfl, gwp 1345 (by decide +kernel) rfl, gws (q := (yX7_isNoWay, 22)) 55 (by decide +kernel), gwp 9 (by decide +kernel) rfl, by decide +kernel⟩
theorem cw_X7_isText : CwV RX7 yX7_isText cX7_isText 1 (some .boolean) 0 := ⟨gwp 1439 (by decide +kernel) rfl, gwp 1438 (by decide +kernel) rfl, gws (q := (yX7_isText, 22)) 59 (by decide +kernel), gwp 9 (by decide +kernel) rfl, by decide +kernel⟩
theorem cw_X7_keeps : CwV RX7 yX7_keeps cX7_keeps 3 none 1 := ⟨gwp 1215 (by decide +kernel) rfl, gwp 1214 (by decide +kernel) rfl, gws (q := (yX7_keeps, 22)) 31 (by decide +kernel), gwp 9 (by decide +kernel) rfl, by decide +kernel⟩
theorem cw_X7_lay : CwV RX7 yX7_lay cX7_lay 3 (some .int) 2 := ⟨gwp 1222 (by decide +kernel) rfl, gwp 1220 (by decide +kernel) rfl, gwp 1221 (by decide +kernel) rfl, gwp 9 (by decide +kernel) rfl, by decide +kernel⟩
theorem cw_X7_liesBehind : CwV RX7 yX7_liesBehind cX7_liesBehind 4 (some .boolean) 2 := ⟨gwp 1258 (by decide +kernel) rfl, gwp 1257 (by decide +kernel) rfl, gws (q := (yX7_liesBehind, 22)) 40 (by decide +kernel), gwp 9 (by decide +kernel) rfl, by decide +kernel⟩
theorem cw_X7_meetOf : CwV RX7 yX7_meetOf cX7_meetOf 4 (some .int) 2 := ⟨gwp 1254 (by decide +kernel) rfl, gwp 1253 (by decide +kernel) rfl, gws (q := (yX7_meetOf, 22)) 39 (by decide +kernel), gwp 9 (by decide +kernel) rfl, by decide +kernel⟩
theorem cw_X7_noFarm : CwV RX7 yX7_noFarm cX7_noFarm 3 (some .int) 2 := ⟨gwp 1234 (by decide +kernel) rfl, gwp 1233 (by decide +kernel) rfl, gws (q := (yX7_noFarm, 22)) 34 (by decide +kernel), gwp 9 (by decide +kernel) rfl, by decide +kernel⟩
theorem cw_X7_parent : CwV RX7 yX7_parent cX7_parent 2 (some .int) 1 := ⟨gwp 1246 (by decide +kernel) rfl, gwp 1245 (by decide +kernel) rfl, gws (q := (yX7_parent, 22)) 37 (by decide +kernel), gwp 9 (by decide +kernel) rfl, by decide +kernel⟩
theorem cw_X7_pathToll : CwV RX7 yX7_pathToll cX7_pathToll 4 (some .int) 1 := ⟨gwp 1318 (by decide +kernel) rfl, gwp 1317 (by decide +kernel) rfl, gws (q := (yX7_pathToll, 22)) 51 (by decide +kernel), gwp 9 (by decide +kernel) rfl, by decide +kernel⟩
theorem cw_X7_preferring : CwV RX7 yX7_preferring cX7_preferring 3 (some .int) 0 := ⟨gwp 1540 (by decide +kernel) rfl, gwp 1539 (by decide +kernel) rfl, gws (q := (yX7_preferring, 22)) 72 (by decide +kernel), gwp 9 (by decide +kernel) rfl, by decide +kernel⟩
theorem cw_X7_prefers : CwV RX7 yX7_prefers cX7_prefers 2 (some .int) 1 := ⟨gwp 1286 (by decide +kernel) rfl, gwp 1285 (by decide +kernel) rfl, gws (q := (yX7_prefers, 22)) 46 (by decide +kernel), gwp 9 (by decide +kernel) rfl, by decide +kernel⟩
theorem cw_X7_refuses : CwV RX7 yX7_refuses cX7_refuses 3 (some .int) 2 := ⟨gwp 1211 (by decide +kernel) rfl, gwp 1210 (by decide +kernel) rfl, gws (q := (yX7_refuses, 22)) 30 (by decide +kernel), gwp 9 (by decide +kernel) rfl, by decide +kernel⟩
theorem cw_X7_root : CwV RX7 yX7_root cX7_root 3 (some .int) 1 := ⟨gwp 1290 (by decide +kernel) rfl, gwp 1288 (by decide +kernel) rfl, gwp 1289 (by decide +kernel) rfl, gwp 9 (by decide +kernel) rfl, by decide +kernel⟩
theorem cw_X7_rootOf : CwV RX7 yX7_rootOf cX7_rootOf 3 (some .int) 1 := ⟨gwp 1242 (by decide +kernel) rfl, gwp 1241 (by decide +kernel) rfl, gws (q := (yX7_rootOf, 22)) 36 (by decide +kernel), gwp 9 (by decide +kernel) rfl, by decide +kernel⟩
theorem cw_X7_roots : CwV RX7 yX7_roots cX7_roots 5 none 1 := ⟨gwp 1266 (by decide +kernel) rfl, gwp 1265 (by decide +kernel) rfl, gws (q := (yX7_roots, 22)) 42 (by decide +kernel), gwp 9 (by decide +kernel) rfl, by decide +kernel⟩
theorem cw_X7_sizeOf : CwV RX7 yX7_sizeOf cX7_sizeOf 4 (some .int) 1 := ⟨gwp 1270 (by decide +kernel) rfl, gwp 1269 (by decide +kernel) rfl, gws (q := (yX7_sizeOf, 22)) 43 (by decide +kernel), gwp 9 (by decide +kernel) rfl, by decide +kernel⟩
theorem cw_X7_skips : CwV RX7 yX7_skips cX7_skips 2 (some .boolean) 1 := ⟨gwp 1451 (by decide +kernel) rfl, gwp 1450 (by decide +kernel) rfl, gws (q := (yX7_skips, 22)) 62 (by decide +kernel), gwp 9 (by decide +kernel) rfl, by decide +kernel⟩
theorem cw_X7_sum : CwV RX7 yX7_sum cX7_sum 3 (some .int) 2 := ⟨gwp 1362 (by decide +kernel) rfl, gwp 1360 (by decide +kernel) rfl, gwp 1361 (by decide +kernel) rfl, gwp 9 (by decide +kernel) rfl, by decide +kernel⟩
theorem cw_X7_toll : CwV RX7 yX7_toll cX7_toll 2 (some .int) 1 := ⟨gwp 1314 (by decide +kernel) rfl, gwp 1313 (by decide +kernel) rfl, gws (q := (yX7_toll, 22)) 50 (by decide +kernel), gwp 9 (by decide +kernel) rfl, by decide +kernel⟩
theorem cw_X7_tollHere : CwV RX7 yX7_tollHere cX7_tollHere 3 (some .boolean) 1 := ⟨gwp 1463 (by decide +kernel) rfl, gwp 1462 (by decide +kernel) rfl, gws (q := (yX7_tollHere, 22)) 65 (by decide +kernel), gwp 9 (by decide +kernel) rfl, by decide +kernel⟩
theorem cw_X7_tolls : CwV RX7 yX7_tolls cX7_tolls 3 (some .int) 0 := ⟨gwp 1514 (by decide +kernel) rfl, gwp 1513 (by decide +kernel) rfl, gws (q := (yX7_tolls, 22)) 70 (by decide +kernel), gwp 9 (by decide +kernel) rfl, by decide +kernel⟩
theorem cw_X7_tooMuch : CwV RX7 yX7_tooMuch cX7_tooMuch 3 (some .int) 1 := ⟨gwp 1310 (by decide +kernel) rfl, gwp 1309 (by decide +kernel) rfl, gws (q := (yX7_tooMuch, 22)) 49 (by decide +kernel), gwp 9 (by decide +kernel) rfl, by decide +kernel⟩
theorem cw_X7_tracks : CwV RX7 yX7_tracks cX7_tracks 3 (some .int) 2 := ⟨gwp 1407 (by decide +kernel) rfl, gwp 1406 (by decide +kernel) rfl, gws (q := (yX7_tracks, 22)) 57 (by decide +kernel), gwp 9 (by decide +kernel) rfl, by decide +kernel⟩
theorem cw_X7_treesNow : CwV RX7 yX7_treesNow cX7_treesNow 3 (some .int) 0 := ⟨gwp 1536 (by decide +kernel) rfl, gwp 1535 (by decide +kernel) rfl, gws (q := (yX7_treesNow, 22)) 71 (by decide +kernel), gwp 9 (by decide +kernel) rfl, by decide +kernel⟩
theorem cw_X7_twoHere : CwV RX7 yX7_twoHere cX7_twoHere 2 (some .boolean) 1 := ⟨gwp 1459 (by decide +kernel) rfl, gwp 1458 (by decide +kernel) rfl, gws (q := (yX7_twoHere, 22)) 64 (by decide +kernel), gwp 9 (by decide +kernel) rfl, by decide +kernel⟩
theorem cw_X7_writes : CwV RX7 yX7_writes cX7_writes 2 none 1 := ⟨gwp 1490 (by decide +kernel) rfl, gwp 1489 (by decide +kernel) rfl, gws (q := (yX7_writes, 22)) 67 (by decide +kernel), gwp 9 (by decide +kernel) rfl, by decide +kernel⟩
theorem cw_X7_writesNumber : CwV RX7 yX7_writesNumber cX7_writesNumber 2 none 1 := ⟨gwp 1494 (by decide +kernel) rfl, gwp 1493 (by decide +kernel) rfl, gws (q := (yX7_writesNumber, 22)) 68 (by decide +kernel), gwp 9 (by decide +kernel) rfl, by decide +kernel⟩
def t_X7_thrown : List (Nat × Instr × Nat) := [(0, .aload_n 0, 1), (1, .getfield 39, 3), (4, .ireturn, 1)]
theorem dt_X7_thrown : tblOK cX7_thrown t_X7_thrown = true := by decide +kernel
def p_X7_thrown  (σ : Sg) : Option Int32 :=
  some (gI σ 20 0 8)
set_option maxRecDepth 20000 in
set_option maxHeartbeats 1000000 in
theorem s_X7_thrown {l : Launch} {D : va_G} {ty : Nat → ClassId} {ρ : Nat → Nat → Nat} {N0 : Nat} (S : St l ty ρ N0)   (σ : Sg) (r : Int32) (h : p_X7_thrown  σ = some r) : AMet l D ty ρ N0 yX7_thrown (Cond.code yX7_thrown cX7_thrown 1 (some .int) :: GW) (rmk 1 0 0) [.ref (ρ 20 0)] σ (oI r) σ := by
  refine am_enter S (by decide) rfl rfl (Nat.le_of_ble_eq_true rfl) ?_
  intro p e s m args below meth c K hX
  have dq := @tat _ _ dt_X7_thrown
  unfold p_X7_thrown at h
  show WA p l e _ s m args below meth c D ty ρ N0 1 _ 0 [some (.ref (ρ 20 0))] [] σ 0 0
  refine a_aload_n K (dq 0 rfl) rfl rfl ?_
  refine a_get K (T := 20) (i := 0) (k := 8) (v := .int (gI σ 20 0 8)) v_20 rfl rfl in_X7 (Nat.le_of_ble_eq_true rfl) fl_X7_39 rfl (dq 1 rfl) ?_
  obtain rfl := Option.some.inj h
  exact a_iret K rfl rfl (dq 2 rfl) (Nat.le_of_ble_eq_true rfl) (Nat.le_of_ble_eq_true rfl) rfl rfl
def t_X7_in : List (Nat × Instr × Nat) := [(0, .iload_n 0, 1), (1, .iload_n 1, 1), (2, .if_icmp .lt 12, 3), (5, .iload_n 0, 1), (6, .iload_n 2, 1), (7, .if_icmp .gt 7, 3), (10, .iconst 1, 1), (11, .goto 4, 3), (14, .iconst 0, 1), (15, .ireturn, 1)]
theorem dt_X7_in : tblOK cX7_in t_X7_in = true := by decide +kernel
def p_X7_in (a0 : Int32) (a1 : Int32) (a2 : Int32) (σ : Sg) : Option Int32 :=
  if a0 < a1 then (some 0) else (if a2 < a0 then (some 0) else (some 1))
set_option maxRecDepth 20000 in
set_option maxHeartbeats 1000000 in
theorem s_X7_in {l : Launch} {D : va_G} {ty : Nat → ClassId} {ρ : Nat → Nat → Nat} {N0 : Nat} (S : St l ty ρ N0) (a0 : Int32) (a1 : Int32) (a2 : Int32)  (σ : Sg) (r : Int32) (h : p_X7_in a0 a1 a2 σ = some r) : AMet l D ty ρ N0 yX7_in (Cond.code yX7_in cX7_in 3 (some .boolean) :: GW) (rmk 1 0 0) [.int a0, .int a1, .int a2] σ (oI r) σ := by
  refine am_enter S (by decide) rfl rfl (Nat.le_of_ble_eq_true rfl) ?_
  intro p e s m args below meth c K hX
  have dq := @tat _ _ dt_X7_in
  unfold p_X7_in at h
  show WA p l e _ s m args below meth c D ty ρ N0 3 _ 0 [some (.int a0), some (.int a1), some (.int a2)] [] σ 0 0
  refine a_iload_n K (dq 0 rfl) rfl rfl ?_
  refine a_iload_n K (dq 1 rfl) rfl rfl ?_
  refine a_icmp_lt K (tgt := 14) (dq 2 rfl) rfl (fun c1 => ?_) (fun c1 => ?_)
  · have h := ite_t c1 h
    refine a_iconst K (dq 8 rfl) (v := 0) rfl ?_
    obtain rfl := Option.some.inj h
    exact a_iret K rfl rfl (dq 9 rfl) (Nat.le_of_ble_eq_true rfl) (Nat.le_of_ble_eq_true rfl) rfl rfl
  · have h := ite_f c1 h
    refine a_iload_n K (dq 3 rfl) rfl rfl ?_
    refine a_iload_n K (dq 4 rfl) rfl rfl ?_
    refine a_icmp_gt K (tgt := 14) (dq 5 rfl) rfl (fun c2 => ?_) (fun c2 => ?_)
    · have h := ite_t c2 h
      refine a_iconst K (dq 8 rfl) (v := 0) rfl ?_
      obtain rfl := Option.some.inj h
      exact a_iret K rfl rfl (dq 9 rfl) (Nat.le_of_ble_eq_true rfl) (Nat.le_of_ble_eq_true rfl) rfl rfl
    · have h := ite_f c2 h
      refine a_iconst K (dq 6 rfl) (v := 1) rfl ?_
      refine a_goto K (tgt := 15) (dq 7 rfl) rfl ?_
      obtain rfl := Option.some.inj h
      exact a_iret K rfl rfl (dq 9 rfl) (Nat.le_of_ble_eq_true rfl) (Nat.le_of_ble_eq_true rfl) rfl rfl
def t_X7_refuses : List (Nat × Instr × Nat) := [(0, .aload_n 0, 1), (1, .iconst 1, 1), (2, .putfield 39, 3), (5, .aload_n 0, 1), (6, .iload_n 1, 1), (7, .putfield 42, 3), (10, .aload_n 0, 1), (11, .iload_n 2, 1), (12, .putfield 45, 3), (15, .aload_n 0, 1), (16, .aload_n 0, 1), (17, .getfield 48, 3), (20, .ifCond .eq 10, 3), (23, .aload_n 0, 1), (24, .getfield 52, 3), (27, .goto 4, 3), (30, .iconst 0, 1), (31, .putfield 55, 3), (34, .iconst 0, 1), (35, .ireturn, 1)]
theorem dt_X7_refuses : tblOK cX7_refuses t_X7_refuses = true := by decide +kernel
def p_X7_refuses (a1 : Int32) (a2 : Int32) (σ : Sg) : Option (Int32 × Sg) :=
  if (gI (sI (sI (sI σ 20 0 8 1) 20 0 9 a1) 20 0 10 a2) 20 0 6) = 0 then (some (0, sI (sI (sI (sI σ 20 0 8 1) 20 0 9 a1) 20 0 10 a2) 20 0 11 0)) else (some (0, sI (sI (sI (sI σ 20 0 8 1) 20 0 9 a1) 20 0 10 a2) 20 0 11 (gI (sI (sI (sI σ 20 0 8 1) 20 0 9 a1) 20 0 10 a2) 20 0 7)))
set_option maxRecDepth 20000 in
set_option maxHeartbeats 1000000 in
theorem s_X7_refuses {l : Launch} {D : va_G} {ty : Nat → ClassId} {ρ : Nat → Nat → Nat} {N0 : Nat} (S : St l ty ρ N0) (a1 : Int32) (a2 : Int32)  (σ : Sg) (r : (Int32 × Sg)) (h : p_X7_refuses a1 a2 σ = some r) : AMet l D ty ρ N0 yX7_refuses (Cond.code yX7_refuses cX7_refuses 3 (some .int) :: GW) (rmk 1 0 0) [.ref (ρ 20 0), .int a1, .int a2] σ (oI r.1) r.2 := by
  refine am_enter S (by decide) rfl rfl (Nat.le_of_ble_eq_true rfl) ?_
  intro p e s m args below meth c K hX
  have dq := @tat _ _ dt_X7_refuses
  unfold p_X7_refuses at h
  show WA p l e _ s m args below meth c D ty ρ N0 3 _ 0 [some (.ref (ρ 20 0)), some (.int a1), some (.int a2)] [] σ 0 0
  refine a_aload_n K (dq 0 rfl) rfl rfl ?_
  refine a_iconst K (dq 1 rfl) (v := 1) rfl ?_
  refine a_put K (T := 20) (i := 0) (k := 8) v_20 rfl rfl in_X7 tyX7 tyX7_ok nmX7 (Nat.le_of_ble_eq_true rfl) fl_X7_39 rfl rfl (tyX7_ok 8 (by decide)) rfl rfl (dq 2 rfl) ?_
  refine a_aload_n K (dq 3 rfl) rfl rfl ?_
  refine a_iload_n K (dq 4 rfl) rfl rfl ?_
  refine a_put K (T := 20) (i := 0) (k := 9) v_20 rfl rfl in_X7 tyX7 tyX7_ok nmX7 (Nat.le_of_ble_eq_true rfl) fl_X7_42 rfl rfl (tyX7_ok 9 (by decide)) rfl rfl (dq 5 rfl) ?_
  refine a_aload_n K (dq 6 rfl) rfl rfl ?_
  refine a_iload_n K (dq 7 rfl) rfl rfl ?_
  refine a_put K (T := 20) (i := 0) (k := 10) v_20 rfl rfl in_X7 tyX7 tyX7_ok nmX7 (Nat.le_of_ble_eq_true rfl) fl_X7_45 rfl rfl (tyX7_ok 10 (by decide)) rfl rfl (dq 8 rfl) ?_
  refine a_aload_n K (dq 9 rfl) rfl rfl ?_
  refine a_aload_n K (dq 10 rfl) rfl rfl ?_
  refine a_get K (T := 20) (i := 0) (k := 6) (v := .int (gI (sI (sI (sI σ 20 0 8 1) 20 0 9 a1) 20 0 10 a2) 20 0 6)) v_20 rfl rfl in_X7 (Nat.le_of_ble_eq_true rfl) fl_X7_48 rfl (dq 11 rfl) ?_
  refine a_if_eq K (tgt := 30) (dq 12 rfl) rfl (fun c1 => ?_) (fun c1 => ?_)
  · have h := ite_t c1 h
    refine a_iconst K (dq 16 rfl) (v := 0) rfl ?_
    refine a_put K (T := 20) (i := 0) (k := 11) v_20 rfl rfl in_X7 tyX7 tyX7_ok nmX7 (Nat.le_of_ble_eq_true rfl) fl_X7_55 rfl rfl (tyX7_ok 11 (by decide)) rfl rfl (dq 17 rfl) ?_
    refine a_iconst K (dq 18 rfl) (v := 0) rfl ?_
    obtain rfl := Option.some.inj h
    exact a_iret K rfl rfl (dq 19 rfl) (Nat.le_of_ble_eq_true rfl) (Nat.le_of_ble_eq_true rfl) rfl rfl
  · have h := ite_f c1 h
    refine a_aload_n K (dq 13 rfl) rfl rfl ?_
    refine a_get K (T := 20) (i := 0) (k := 7) (v := .int (gI (sI (sI (sI σ 20 0 8 1) 20 0 9 a1) 20 0 10 a2) 20 0 7)) v_20 rfl rfl in_X7 (Nat.le_of_ble_eq_true rfl) fl_X7_52 rfl (dq 14 rfl) ?_
    refine a_goto K (tgt := 31) (dq 15 rfl) rfl ?_
    refine a_put K (T := 20) (i := 0) (k := 11) v_20 rfl rfl in_X7 tyX7 tyX7_ok nmX7 (Nat.le_of_ble_eq_true rfl) fl_X7_55 rfl rfl (tyX7_ok 11 (by decide)) rfl rfl (dq 17 rfl) ?_
    refine a_iconst K (dq 18 rfl) (v := 0) rfl ?_
    obtain rfl := Option.some.inj h
    exact a_iret K rfl rfl (dq 19 rfl) (Nat.le_of_ble_eq_true rfl) (Nat.le_of_ble_eq_true rfl) rfl rfl
def t_X7_copies : List (Nat × Instr × Nat) := [(0, .iconst 0, 1), (1, .istore 4, 2), (3, .iload 4, 2), (5, .bipush 44, 2), (7, .if_icmp .ge 21, 3), (10, .aload_n 2, 1), (11, .iload_n 3, 1), (12, .iload 4, 2), (14, .iadd, 1), (15, .aload_n 0, 1), (16, .iload_n 1, 1), (17, .iload 4, 2), (19, .iadd, 1), (20, .iaload, 1), (21, .iastore, 1), (22, .iinc 4 1, 3), (25, .goto (-22), 3), (28, .return_, 1)]
theorem dt_X7_copies : tblOK cX7_copies t_X7_copies = true := by decide +kernel
def p_X7_copies_L3 (t : Nat) (u : Nat) : Nat → Int32 → Int32 → Int32 → Sg → Option Sg
  | 0, _, _, _, _ => none
  | n + 1, v1, v3, v4, σ => if 44 ≤ v4 then (some σ) else (if ib (v1 + v4) (alen t) then (if ib (v3 + v4) (alen u) then (p_X7_copies_L3 t u n v1 v3 (v4 + 1) (sA σ u 0 (v3 + v4).toNatClampNeg (gA σ t 0 (v1 + v4).toNatClampNeg))) else none) else none)
def p_X7_copies (t : Nat) (a1 : Int32) (u : Nat) (a3 : Int32) (σ : Sg) : Option Sg :=
  p_X7_copies_L3 t u 400 a1 a3 0 σ
set_option maxRecDepth 20000 in
set_option maxHeartbeats 1000000 in
theorem s_X7_copies_L3 {l : Launch} {D : va_G} {ty : Nat → ClassId} {ρ : Nat → Nat → Nat} {N0 : Nat} (S : St l ty ρ N0) (t : Nat) (u : Nat) (hvt : Vld t 0) (hdt : dsc t = none) (hkt : akind t = 0) (hvu : Vld u 0) (hdu : dsc u = none) (hku : akind u = 0) : ∀ (n : Nat) (v1 : Int32) (v3 : Int32) (v4 : Int32) (σ : Sg) (r : Sg) (h : p_X7_copies_L3 t u n v1 v3 v4 σ = some r) {p : Program} {e : Env} {s : State} {m : MethodId} {args : Array Value} {below : List Frame} {meth : Method} {c : Code} (K : Cx p l s m args meth c cX7_copies 5 RX7 none D ty ρ N0) (hX : ∀ x ∈ c.exceptionTable.toList, False), WA p l e (rmk 1 0 0) s m args below meth c D ty ρ N0 5 (vx_MQ below (oQ D ty ρ N0 (.inl none) r) (oX D ty ρ N0 (.inl none) r) args s 0 0 (fun q => N0 ≤ q)) 3 [some (.ref (ρ t 0)), some (.int v1), some (.ref (ρ u 0)), some (.int v3), some (.int v4)] [] σ 0 0 := by
  intro n
  induction n with
  | zero =>
    intro v1 v3 v4 σ r h
    simp only [p_X7_copies_L3] at h
    cases h
  | succ n ih =>
    intro v1 v3 v4 σ r h p e s m args below meth c K hX
    have dq := @tat _ _ dt_X7_copies
    rw [p_X7_copies_L3] at h
    refine a_iload K (dq 2 rfl) rfl ?_
    refine a_bipush K (dq 3 rfl) (v := 44) rfl ?_
    refine a_icmp_ge K (tgt := 28) (dq 4 rfl) rfl (fun c1 => ?_) (fun c1 => ?_)
    · have h := ite_t c1 h
      obtain rfl := Option.some.inj h
      exact a_vret K rfl (dq 17 rfl) (Nat.le_of_ble_eq_true rfl) (Nat.le_of_ble_eq_true rfl) rfl rfl
    · have h := ite_f c1 h
      refine a_aload_n K (dq 5 rfl) rfl rfl ?_
      refine a_iload_n K (dq 6 rfl) rfl rfl ?_
      refine a_iload K (dq 7 rfl) rfl ?_
      refine a_iadd K (dq 8 rfl) ?_
      refine a_aload_n K (dq 9 rfl) rfl rfl ?_
      refine a_iload_n K (dq 10 rfl) rfl rfl ?_
      refine a_iload K (dq 11 rfl) rfl ?_
      refine a_iadd K (dq 12 rfl) ?_
      obtain ⟨c2, h⟩ := ib_some h
      refine a_iald K (T := t) (i := 0) hvt hdt hkt c2 (dq 13 rfl) ?_
      obtain ⟨c3, h⟩ := ib_some h
      refine a_iast K (T := u) (i := 0) hvu hdu hku c3 (dq 14 rfl) ?_
      refine a_iinc K (dq 15 rfl) rfl (v := (v4 + 1)) rfl (Nat.le_of_ble_eq_true rfl) (ls' := [some (.ref (ρ t 0)), some (.int v1), some (.ref (ρ u 0)), some (.int v3), some (.int (v4 + 1))]) rfl ?_
      refine a_goto K (tgt := 3) (dq 16 rfl) rfl ?_
      exact ih v1 v3 (v4 + 1) (sA σ u 0 (v3 + v4).toNatClampNeg (gA σ t 0 (v1 + v4).toNatClampNeg)) r h K hX
set_option maxRecDepth 20000 in
set_option maxHeartbeats 1000000 in
theorem s_X7_copies {l : Launch} {D : va_G} {ty : Nat → ClassId} {ρ : Nat → Nat → Nat} {N0 : Nat} (S : St l ty ρ N0) (t : Nat) (a1 : Int32) (u : Nat) (a3 : Int32) (hvt : Vld t 0) (hdt : dsc t = none) (hkt : akind t = 0) (hvu : Vld u 0) (hdu : dsc u = none) (hku : akind u = 0) (σ : Sg) (r : Sg) (h : p_X7_copies t a1 u a3 σ = some r) : AMet l D ty ρ N0 yX7_copies (Cond.code yX7_copies cX7_copies 5 none :: GW) (rmk 1 0 0) [.ref (ρ t 0), .int a1, .ref (ρ u 0), .int a3] σ (.inl none) r := by
  refine am_enter S (by decide) rfl rfl (Nat.le_of_ble_eq_true rfl) ?_
  intro p e s m args below meth c K hX
  have dq := @tat _ _ dt_X7_copies
  unfold p_X7_copies at h
  show WA p l e _ s m args below meth c D ty ρ N0 5 _ 0 [some (.ref (ρ t 0)), some (.int a1), some (.ref (ρ u 0)), some (.int a3), none] [] σ 0 0
  refine a_iconst K (dq 0 rfl) (v := 0) rfl ?_
  refine a_istore K (dq 1 rfl) (Nat.le_of_ble_eq_true rfl) (ls' := [some (.ref (ρ t 0)), some (.int a1), some (.ref (ρ u 0)), some (.int a3), some (.int 0)]) rfl ?_
  exact s_X7_copies_L3 S t u hvt hdt hkt hvu hdu hku   400 a1 a3 0 σ r h K hX
def t_X7_isFarm : List (Nat × Instr × Nat) := [(0, .iload_n 1, 1), (1, .iconst 0, 1), (2, .aload_n 0, 1), (3, .getfield 7, 3), (6, .iconst 0, 1), (7, .iaload, 1), (8, .iconst 1, 1), (9, .isub, 1), (10, .invokestatic 65, 3), (13, .ireturn, 1)]
theorem dt_X7_isFarm : tblOK cX7_isFarm t_X7_isFarm = true := by decide +kernel
def p_X7_isFarm (a1 : Int32) (σ : Sg) : Option Int32 :=
  (p_X7_in a1 0 ((gA σ 21 0 0) - 1) σ).bind fun r1 => some (nb r1)
set_option maxRecDepth 20000 in
set_option maxHeartbeats 1000000 in
theorem s_X7_isFarm {l : Launch} {D : va_G} {ty : Nat → ClassId} {ρ : Nat → Nat → Nat} {N0 : Nat} (S : St l ty ρ N0) (a1 : Int32)  (σ : Sg) (r : Int32) (h : p_X7_isFarm a1 σ = some r) : AMet l D ty ρ N0 yX7_isFarm (Cond.code yX7_isFarm cX7_isFarm 2 (some .boolean) :: GW) (rmk 2 0 0) [.ref (ρ 20 0), .int a1] σ (oI r) σ := by
  refine am_enter S (by decide) rfl rfl (Nat.le_of_ble_eq_true rfl) ?_
  intro p e s m args below meth c K hX
  have dq := @tat _ _ dt_X7_isFarm
  unfold p_X7_isFarm at h
  show WA p l e _ s m args below meth c D ty ρ N0 2 _ 0 [some (.ref (ρ 20 0)), some (.int a1)] [] σ 0 0
  refine a_iload_n K (dq 0 rfl) rfl rfl ?_
  refine a_iconst K (dq 1 rfl) (v := 0) rfl ?_
  refine a_aload_n K (dq 2 rfl) rfl rfl ?_
  refine a_get K (T := 20) (i := 0) (k := 0) (v := .ref (ρ 21 0)) v_20 rfl rfl in_X7 (Nat.le_of_ble_eq_true rfl) fl_X7_7 rfl (dq 3 rfl) ?_
  refine a_iconst K (dq 4 rfl) (v := 0) rfl ?_
  refine a_ialdK K (T := 21) (i := 0) (nj := 0) v_21 rfl rfl (ib_in rfl) rfl (dq 5 rfl) ?_
  refine a_iconst K (dq 6 rfl) (v := 1) rfl ?_
  refine a_isub K (dq 7 rfl) ?_
  obtain ⟨r1, h1, h⟩ := bnd h
  refine a_callSi K (s_X7_in S a1 0 ((gA σ 21 0 0) - 1)  σ r1 h1) cw_X7_in ml_X7_65 (by decide) rfl (rest := []) rfl (Nat.le_of_ble_eq_true rfl) (dq 8 rfl) (by decide) ?_
  obtain rfl := Option.some.inj h
  exact a_iret K rfl rfl (dq 9 rfl) (Nat.le_of_ble_eq_true rfl) (Nat.le_of_ble_eq_true rfl) rfl rfl
def t_X7_noFarm : List (Nat × Instr × Nat) := [(0, .aload_n 0, 1), (1, .iload_n 1, 1), (2, .invokevirtual 103, 3), (5, .ifCond .ne 7, 3), (8, .iload_n 1, 1), (9, .goto 4, 3), (12, .iload_n 2, 1), (13, .ireturn, 1)]
theorem dt_X7_noFarm : tblOK cX7_noFarm t_X7_noFarm = true := by decide +kernel
def p_X7_noFarm (a1 : Int32) (a2 : Int32) (σ : Sg) : Option Int32 :=
  (p_X7_isFarm a1 σ).bind fun r1 => if r1 = 0 then (some a1) else (some a2)
set_option maxRecDepth 20000 in
set_option maxHeartbeats 1000000 in
theorem s_X7_noFarm {l : Launch} {D : va_G} {ty : Nat → ClassId} {ρ : Nat → Nat → Nat} {N0 : Nat} (S : St l ty ρ N0) (a1 : Int32) (a2 : Int32)  (σ : Sg) (r : Int32) (h : p_X7_noFarm a1 a2 σ = some r) : AMet l D ty ρ N0 yX7_noFarm (Cond.code yX7_noFarm cX7_noFarm 3 (some .int) :: GW) (rmk 3 0 0) [.ref (ρ 20 0), .int a1, .int a2] σ (oI r) σ := by
  refine am_enter S (by decide) rfl rfl (Nat.le_of_ble_eq_true rfl) ?_
  intro p e s m args below meth c K hX
  have dq := @tat _ _ dt_X7_noFarm
  unfold p_X7_noFarm at h
  show WA p l e _ s m args below meth c D ty ρ N0 3 _ 0 [some (.ref (ρ 20 0)), some (.int a1), some (.int a2)] [] σ 0 0
  refine a_aload_n K (dq 0 rfl) rfl rfl ?_
  refine a_iload_n K (dq 1 rfl) rfl rfl ?_
  obtain ⟨r1, h1, h⟩ := bnd h
  refine a_callVi K (s_X7_isFarm S a1  σ r1 h1) v_20 rfl rfl cw_X7_isFarm ml_X7_103 (by decide) rfl (rest := []) rfl (Nat.le_of_ble_eq_true rfl) (dq 2 rfl) (by decide) ?_
  refine a_if_ne K (tgt := 12) (dq 3 rfl) rfl (fun c2 => ?_) (fun c2 => ?_)
  · have h := ite_f c2 h
    refine a_iload_n K (dq 6 rfl) rfl rfl ?_
    obtain rfl := Option.some.inj h
    exact a_iret K rfl rfl (dq 7 rfl) (Nat.le_of_ble_eq_true rfl) (Nat.le_of_ble_eq_true rfl) rfl rfl
  · have h := ite_t c2 h
    refine a_iload_n K (dq 4 rfl) rfl rfl ?_
    refine a_goto K (tgt := 13) (dq 5 rfl) rfl ?_
    obtain rfl := Option.some.inj h
    exact a_iret K rfl rfl (dq 7 rfl) (Nat.le_of_ble_eq_true rfl) (Nat.le_of_ble_eq_true rfl) rfl rfl
def t_X7_parent : List (Nat × Instr × Nat) := [(0, .aload_n 0, 1), (1, .getfield 7, 3), (4, .bipush 20, 2), (6, .iload_n 1, 1), (7, .iadd, 1), (8, .iaload, 1), (9, .ireturn, 1)]
theorem dt_X7_parent : tblOK cX7_parent t_X7_parent = true := by decide +kernel
def p_X7_parent (a1 : Int32) (σ : Sg) : Option Int32 :=
  if ib (20 + a1) 44 then (some (gA σ 21 0 (20 + a1).toNatClampNeg)) else none
set_option maxRecDepth 20000 in
set_option maxHeartbeats 1000000 in
theorem s_X7_parent {l : Launch} {D : va_G} {ty : Nat → ClassId} {ρ : Nat → Nat → Nat} {N0 : Nat} (S : St l ty ρ N0) (a1 : Int32)  (σ : Sg) (r : Int32) (h : p_X7_parent a1 σ = some r) : AMet l D ty ρ N0 yX7_parent (Cond.code yX7_parent cX7_parent 2 (some .int) :: GW) (rmk 1 0 0) [.ref (ρ 20 0), .int a1] σ (oI r) σ := by
  refine am_enter S (by decide) rfl rfl (Nat.le_of_ble_eq_true rfl) ?_
  intro p e s m args below meth c K hX
  have dq := @tat _ _ dt_X7_parent
  unfold p_X7_parent at h
  show WA p l e _ s m args below meth c D ty ρ N0 2 _ 0 [some (.ref (ρ 20 0)), some (.int a1)] [] σ 0 0
  refine a_aload_n K (dq 0 rfl) rfl rfl ?_
  refine a_get K (T := 20) (i := 0) (k := 0) (v := .ref (ρ 21 0)) v_20 rfl rfl in_X7 (Nat.le_of_ble_eq_true rfl) fl_X7_7 rfl (dq 1 rfl) ?_
  refine a_bipush K (dq 2 rfl) (v := 20) rfl ?_
  refine a_iload_n K (dq 3 rfl) rfl rfl ?_
  refine a_iadd K (dq 4 rfl) ?_
  obtain ⟨c1, h⟩ := ib_some h
  refine a_iald K (T := 21) (i := 0) v_21 rfl rfl c1 (dq 5 rfl) ?_
  obtain rfl := Option.some.inj h
  exact a_iret K rfl rfl (dq 6 rfl) (Nat.le_of_ble_eq_true rfl) (Nat.le_of_ble_eq_true rfl) rfl rfl
def t_X7_liesBehind : List (Nat × Instr × Nat) := [(0, .iload_n 1, 1), (1, .istore_n 3, 1), (2, .iload_n 3, 1), (3, .ifCond .lt 17, 3), (6, .iload_n 3, 1), (7, .iload_n 2, 1), (8, .if_icmp .eq 12, 3), (11, .aload_n 0, 1), (12, .iload_n 3, 1), (13, .invokevirtual 69, 3), (16, .istore_n 3, 1), (17, .goto (-15), 3), (20, .iload_n 3, 1), (21, .iload_n 2, 1), (22, .if_icmp .ne 7, 3), (25, .iconst 1, 1), (26, .goto 4, 3), (29, .iconst 0, 1), (30, .ireturn, 1)]
theorem dt_X7_liesBehind : tblOK cX7_liesBehind t_X7_liesBehind = true := by decide +kernel
def p_X7_liesBehind_L2  (σ : Sg) : Nat → Int32 → Int32 → Option Int32
  | 0, _, _ => none
  | n + 1, v2, v3 => if v3 < 0 then (if v3 = v2 then (some 1) else (some 0)) else (if v3 = v2 then (if v3 = v2 then (some 1) else (some 0)) else ((p_X7_parent v3 σ).bind fun r5 => p_X7_liesBehind_L2 σ n v2 r5))
def p_X7_liesBehind (a1 : Int32) (a2 : Int32) (σ : Sg) : Option Int32 :=
  p_X7_liesBehind_L2 σ 400 a2 a1
set_option maxRecDepth 20000 in
set_option maxHeartbeats 1000000 in
theorem s_X7_liesBehind_L2 {l : Launch} {D : va_G} {ty : Nat → ClassId} {ρ : Nat → Nat → Nat} {N0 : Nat} (S : St l ty ρ N0)   (σ : Sg) : ∀ (n : Nat) (v2 : Int32) (v3 : Int32) (r : Int32) (h : p_X7_liesBehind_L2  σ n v2 v3 = some r) {p : Program} {e : Env} {s : State} {m : MethodId} {args : Array Value} {below : List Frame} {meth : Method} {c : Code} (K : Cx p l s m args meth c cX7_liesBehind 4 RX7 (some .boolean) D ty ρ N0) (hX : ∀ x ∈ c.exceptionTable.toList, False), WA p l e (rmk 2 0 0) s m args below meth c D ty ρ N0 4 (vx_MQ below (oQ D ty ρ N0 (oI r) σ) (oX D ty ρ N0 (oI r) σ) args s 0 0 (fun q => N0 ≤ q)) 2 [some (.ref (ρ 20 0)), none, some (.int v2), some (.int v3)] [] σ 0 0 := by
  intro n
  induction n with
  | zero =>
    intro v2 v3 r h
    simp only [p_X7_liesBehind_L2] at h
    cases h
  | succ n ih =>
    intro v2 v3 r h p e s m args below meth c K hX
    have dq := @tat _ _ dt_X7_liesBehind
    rw [p_X7_liesBehind_L2] at h
    refine a_iload_n K (dq 2 rfl) rfl rfl ?_
    refine a_if_lt K (tgt := 20) (dq 3 rfl) rfl (fun c1 => ?_) (fun c1 => ?_)
    · have h := ite_t c1 h
      refine a_iload_n K (dq 12 rfl) rfl rfl ?_
      refine a_iload_n K (dq 13 rfl) rfl rfl ?_
      refine a_icmp_ne K (tgt := 29) (dq 14 rfl) rfl (fun c2 => ?_) (fun c2 => ?_)
      · have h := ite_f c2 h
        refine a_iconst K (dq 17 rfl) (v := 0) rfl ?_
        obtain rfl := Option.some.inj h
        exact a_iret K rfl rfl (dq 18 rfl) (Nat.le_of_ble_eq_true rfl) (Nat.le_of_ble_eq_true rfl) rfl rfl
      · have h := ite_t c2 h
        refine a_iconst K (dq 15 rfl) (v := 1) rfl ?_
        refine a_goto K (tgt := 30) (dq 16 rfl) rfl ?_
        obtain rfl := Option.some.inj h
        exact a_iret K rfl rfl (dq 18 rfl) (Nat.le_of_ble_eq_true rfl) (Nat.le_of_ble_eq_true rfl) rfl rfl
    · have h := ite_f c1 h
      refine a_iload_n K (dq 4 rfl) rfl rfl ?_
      refine a_iload_n K (dq 5 rfl) rfl rfl ?_
      refine a_icmp_eq K (tgt := 20) (dq 6 rfl) rfl (fun c3 => ?_) (fun c3 => ?_)
      · have h := ite_t c3 h
        refine a_iload_n K (dq 12 rfl) rfl rfl ?_
        refine a_iload_n K (dq 13 rfl) rfl rfl ?_
        refine a_icmp_ne K (tgt := 29) (dq 14 rfl) rfl (fun c4 => ?_) (fun c4 => ?_)
        · have h := ite_f c4 h
          refine a_iconst K (dq 17 rfl) (v := 0) rfl ?_
          obtain rfl := Option.some.inj h
          exact a_iret K rfl rfl (dq 18 rfl) (Nat.le_of_ble_eq_true rfl) (Nat.le_of_ble_eq_true rfl) rfl rfl
        · have h := ite_t c4 h
          refine a_iconst K (dq 15 rfl) (v := 1) rfl ?_
          refine a_goto K (tgt := 30) (dq 16 rfl) rfl ?_
          obtain rfl := Option.some.inj h
          exact a_iret K rfl rfl (dq 18 rfl) (Nat.le_of_ble_eq_true rfl) (Nat.le_of_ble_eq_true rfl) rfl rfl
      · have h := ite_f c3 h
        refine a_aload_n K (dq 7 rfl) rfl rfl ?_
        refine a_iload_n K (dq 8 rfl) rfl rfl ?_
        obtain ⟨r5, h5, h⟩ := bnd h
        refine a_callVi K (s_X7_parent S v3  σ r5 h5) v_20 rfl rfl cw_X7_parent ml_X7_69 (by decide) rfl (rest := []) rfl (Nat.le_of_ble_eq_true rfl) (dq 9 rfl) (by decide) ?_
        refine a_istore_n K (dq 10 rfl) rfl (Nat.le_of_ble_eq_true rfl) (ls' := [some (.ref (ρ 20 0)), none, some (.int v2), some (.int r5)]) rfl ?_
        refine a_goto K (tgt := 2) (dq 11 rfl) rfl ?_
        exact ih v2 r5 r h K hX
set_option maxRecDepth 20000 in
set_option maxHeartbeats 1000000 in
theorem s_X7_liesBehind {l : Launch} {D : va_G} {ty : Nat → ClassId} {ρ : Nat → Nat → Nat} {N0 : Nat} (S : St l ty ρ N0) (a1 : Int32) (a2 : Int32)  (σ : Sg) (r : Int32) (h : p_X7_liesBehind a1 a2 σ = some r) : AMet l D ty ρ N0 yX7_liesBehind (Cond.code yX7_liesBehind cX7_liesBehind 4 (some .boolean) :: GW) (rmk 2 0 0) [.ref (ρ 20 0), .int a1, .int a2] σ (oI r) σ := by
  refine am_enter S (by decide) rfl rfl (Nat.le_of_ble_eq_true rfl) ?_
  intro p e s m args below meth c K hX
  have dq := @tat _ _ dt_X7_liesBehind
  unfold p_X7_liesBehind at h
  show WA p l e _ s m args below meth c D ty ρ N0 4 _ 0 [some (.ref (ρ 20 0)), some (.int a1), some (.int a2), none] [] σ 0 0
  refine a_iload_n K (dq 0 rfl) rfl rfl ?_
  refine a_istore_n K (dq 1 rfl) rfl (Nat.le_of_ble_eq_true rfl) (ls' := [some (.ref (ρ 20 0)), some (.int a1), some (.int a2), some (.int a1)]) rfl ?_
  refine a_le2 (ls' := [some (.ref (ρ 20 0)), none, some (.int a2), some (.int a1)]) ⟨rfl, rfl, rfl, trivial⟩ ?_
  exact s_X7_liesBehind_L2 S   σ 400 a2 a1 r h K hX
def t_X7_depth : List (Nat × Instr × Nat) := [(0, .iconst 0, 1), (1, .istore_n 2, 1), (2, .aload_n 0, 1), (3, .iload_n 1, 1), (4, .invokevirtual 69, 3), (7, .istore_n 3, 1), (8, .iload_n 3, 1), (9, .ifCond .lt 15, 3), (12, .iinc 2 1, 3), (15, .aload_n 0, 1), (16, .iload_n 3, 1), (17, .invokevirtual 69, 3), (20, .istore_n 3, 1), (21, .goto (-13), 3), (24, .iload_n 2, 1), (25, .ireturn, 1)]
theorem dt_X7_depth : tblOK cX7_depth t_X7_depth = true := by decide +kernel
def p_X7_depth_L8  (σ : Sg) : Nat → Int32 → Int32 → Option Int32
  | 0, _, _ => none
  | n + 1, v2, v3 => if v3 < 0 then (some v2) else ((p_X7_parent v3 σ).bind fun r3 => p_X7_depth_L8 σ n (v2 + 1) r3)
def p_X7_depth (a1 : Int32) (σ : Sg) : Option Int32 :=
  (p_X7_parent a1 σ).bind fun r1 => p_X7_depth_L8 σ 400 0 r1
set_option maxRecDepth 20000 in
set_option maxHeartbeats 1000000 in
theorem s_X7_depth_L8 {l : Launch} {D : va_G} {ty : Nat → ClassId} {ρ : Nat → Nat → Nat} {N0 : Nat} (S : St l ty ρ N0)   (σ : Sg) : ∀ (n : Nat) (v2 : Int32) (v3 : Int32) (r : Int32) (h : p_X7_depth_L8  σ n v2 v3 = some r) {p : Program} {e : Env} {s : State} {m : MethodId} {args : Array Value} {below : List Frame} {meth : Method} {c : Code} (K : Cx p l s m args meth c cX7_depth 4 RX7 (some .int) D ty ρ N0) (hX : ∀ x ∈ c.exceptionTable.toList, False), WA p l e (rmk 2 0 0) s m args below meth c D ty ρ N0 4 (vx_MQ below (oQ D ty ρ N0 (oI r) σ) (oX D ty ρ N0 (oI r) σ) args s 0 0 (fun q => N0 ≤ q)) 8 [some (.ref (ρ 20 0)), none, some (.int v2), some (.int v3)] [] σ 0 0 := by
  intro n
  induction n with
  | zero =>
    intro v2 v3 r h
    simp only [p_X7_depth_L8] at h
    cases h
  | succ n ih =>
    intro v2 v3 r h p e s m args below meth c K hX
    have dq := @tat _ _ dt_X7_depth
    rw [p_X7_depth_L8] at h
    refine a_iload_n K (dq 6 rfl) rfl rfl ?_
    refine a_if_lt K (tgt := 24) (dq 7 rfl) rfl (fun c2 => ?_) (fun c2 => ?_)
    · have h := ite_t c2 h
      refine a_iload_n K (dq 14 rfl) rfl rfl ?_
      obtain rfl := Option.some.inj h
      exact a_iret K rfl rfl (dq 15 rfl) (Nat.le_of_ble_eq_true rfl) (Nat.le_of_ble_eq_true rfl) rfl rfl
    · have h := ite_f c2 h
      refine a_iinc K (dq 8 rfl) rfl (v := (v2 + 1)) rfl (Nat.le_of_ble_eq_true rfl) (ls' := [some (.ref (ρ 20 0)), none, some (.int (v2 + 1)), some (.int v3)]) rfl ?_
      refine a_aload_n K (dq 9 rfl) rfl rfl ?_
      refine a_iload_n K (dq 10 rfl) rfl rfl ?_
      obtain ⟨r3, h3, h⟩ := bnd h
      refine a_callVi K (s_X7_parent S v3  σ r3 h3) v_20 rfl rfl cw_X7_parent ml_X7_69 (by decide) rfl (rest := []) rfl (Nat.le_of_ble_eq_true rfl) (dq 11 rfl) (by decide) ?_
      refine a_istore_n K (dq 12 rfl) rfl (Nat.le_of_ble_eq_true rfl) (ls' := [some (.ref (ρ 20 0)), none, some (.int (v2 + 1)), some (.int r3)]) rfl ?_
      refine a_goto K (tgt := 8) (dq 13 rfl) rfl ?_
      exact ih (v2 + 1) r3 r h K hX
set_option maxRecDepth 20000 in
set_option maxHeartbeats 1000000 in
theorem s_X7_depth {l : Launch} {D : va_G} {ty : Nat → ClassId} {ρ : Nat → Nat → Nat} {N0 : Nat} (S : St l ty ρ N0) (a1 : Int32)  (σ : Sg) (r : Int32) (h : p_X7_depth a1 σ = some r) : AMet l D ty ρ N0 yX7_depth (Cond.code yX7_depth cX7_depth 4 (some .int) :: GW) (rmk 2 0 0) [.ref (ρ 20 0), .int a1] σ (oI r) σ := by
  refine am_enter S (by decide) rfl rfl (Nat.le_of_ble_eq_true rfl) ?_
  intro p e s m args below meth c K hX
  have dq := @tat _ _ dt_X7_depth
  unfold p_X7_depth at h
  show WA p l e _ s m args below meth c D ty ρ N0 4 _ 0 [some (.ref (ρ 20 0)), some (.int a1), none, none] [] σ 0 0
  refine a_iconst K (dq 0 rfl) (v := 0) rfl ?_
  refine a_istore_n K (dq 1 rfl) rfl (Nat.le_of_ble_eq_true rfl) (ls' := [some (.ref (ρ 20 0)), some (.int a1), some (.int 0), none]) rfl ?_
  refine a_aload_n K (dq 2 rfl) rfl rfl ?_
  refine a_iload_n K (dq 3 rfl) rfl rfl ?_
  obtain ⟨r1, h1, h⟩ := bnd h
  refine a_callVi K (s_X7_parent S a1  σ r1 h1) v_20 rfl rfl cw_X7_parent ml_X7_69 (by decide) rfl (rest := []) rfl (Nat.le_of_ble_eq_true rfl) (dq 4 rfl) (by decide) ?_
  refine a_istore_n K (dq 5 rfl) rfl (Nat.le_of_ble_eq_true rfl) (ls' := [some (.ref (ρ 20 0)), some (.int a1), some (.int 0), some (.int r1)]) rfl ?_
  refine a_le2 (ls' := [some (.ref (ρ 20 0)), none, some (.int 0), some (.int r1)]) ⟨rfl, rfl, rfl, trivial⟩ ?_
  exact s_X7_depth_L8 S   σ 400 0 r1 r h K hX
def t_X7_roots : List (Nat × Instr × Nat) := [(0, .iconst (-1), 1), (1, .istore_n 2, 1), (2, .iload_n 1, 1), (3, .istore_n 3, 1), (4, .iload_n 3, 1), (5, .ifCond .lt 38, 3), (8, .aload_n 0, 1), (9, .iload_n 3, 1), (10, .invokevirtual 69, 3), (13, .istore 4, 2), (15, .aload_n 0, 1), (16, .getfield 7, 3), (19, .bipush 20, 2), (21, .iload_n 3, 1), (22, .iadd, 1), (23, .iload_n 2, 1), (24, .iastore, 1), (25, .aload_n 0, 1), (26, .getfield 7, 3), (29, .bipush 32, 2), (31, .iload_n 3, 1), (32, .iadd, 1), (33, .iconst (-1), 1), (34, .iastore, 1), (35, .iload_n 3, 1), (36, .istore_n 2, 1), (37, .iload 4, 2), (39, .istore_n 3, 1), (40, .goto (-36), 3), (43, .return_, 1)]
theorem dt_X7_roots : tblOK cX7_roots t_X7_roots = true := by decide +kernel
def p_X7_roots_L4  : Nat → Int32 → Int32 → Sg → Option Sg
  | 0, _, _, _ => none
  | n + 1, v2, v3, σ => if v3 < 0 then (some σ) else ((p_X7_parent v3 σ).bind fun r2 => if ib (20 + v3) 44 then (if ib (32 + v3) 44 then (p_X7_roots_L4 n v3 r2 (sA (sA σ 21 0 (20 + v3).toNatClampNeg v2) 21 0 (32 + v3).toNatClampNeg (-1))) else none) else none)
def p_X7_roots (a1 : Int32) (σ : Sg) : Option Sg :=
  p_X7_roots_L4 400 (-1) a1 σ
set_option maxRecDepth 20000 in
set_option maxHeartbeats 1000000 in
theorem s_X7_roots_L4 {l : Launch} {D : va_G} {ty : Nat → ClassId} {ρ : Nat → Nat → Nat} {N0 : Nat} (S : St l ty ρ N0)   : ∀ (n : Nat) (v2 : Int32) (v3 : Int32) (σ : Sg) (r : Sg) (h : p_X7_roots_L4  n v2 v3 σ = some r) {p : Program} {e : Env} {s : State} {m : MethodId} {args : Array Value} {below : List Frame} {meth : Method} {c : Code} (K : Cx p l s m args meth c cX7_roots 5 RX7 none D ty ρ N0) (hX : ∀ x ∈ c.exceptionTable.toList, False), WA p l e (rmk 2 0 0) s m args below meth c D ty ρ N0 5 (vx_MQ below (oQ D ty ρ N0 (.inl none) r) (oX D ty ρ N0 (.inl none) r) args s 0 0 (fun q => N0 ≤ q)) 4 [some (.ref (ρ 20 0)), none, some (.int v2), some (.int v3), none] [] σ 0 0 := by
  intro n
  induction n with
  | zero =>
    intro v2 v3 σ r h
    simp only [p_X7_roots_L4] at h
    cases h
  | succ n ih =>
    intro v2 v3 σ r h p e s m args below meth c K hX
    have dq := @tat _ _ dt_X7_roots
    rw [p_X7_roots_L4] at h
    refine a_iload_n K (dq 4 rfl) rfl rfl ?_
    refine a_if_lt K (tgt := 43) (dq 5 rfl) rfl (fun c1 => ?_) (fun c1 => ?_)
    · have h := ite_t c1 h
      obtain rfl := Option.some.inj h
      exact a_vret K rfl (dq 29 rfl) (Nat.le_of_ble_eq_true rfl) (Nat.le_of_ble_eq_true rfl) rfl rfl
    · have h := ite_f c1 h
      refine a_aload_n K (dq 6 rfl) rfl rfl ?_
      refine a_iload_n K (dq 7 rfl) rfl rfl ?_
      obtain ⟨r2, h2, h⟩ := bnd h
      refine a_callVi K (s_X7_parent S v3  σ r2 h2) v_20 rfl rfl cw_X7_parent ml_X7_69 (by decide) rfl (rest := []) rfl (Nat.le_of_ble_eq_true rfl) (dq 8 rfl) (by decide) ?_
      refine a_istore K (dq 9 rfl) (Nat.le_of_ble_eq_true rfl) (ls' := [some (.ref (ρ 20 0)), none, some (.int v2), some (.int v3), some (.int r2)]) rfl ?_
      refine a_aload_n K (dq 10 rfl) rfl rfl ?_
      refine a_get K (T := 20) (i := 0) (k := 0) (v := .ref (ρ 21 0)) v_20 rfl rfl in_X7 (Nat.le_of_ble_eq_true rfl) fl_X7_7 rfl (dq 11 rfl) ?_
      refine a_bipush K (dq 12 rfl) (v := 20) rfl ?_
      refine a_iload_n K (dq 13 rfl) rfl rfl ?_
      refine a_iadd K (dq 14 rfl) ?_
      refine a_iload_n K (dq 15 rfl) rfl rfl ?_
      obtain ⟨c3, h⟩ := ib_some h
      refine a_iast K (T := 21) (i := 0) v_21 rfl rfl c3 (dq 16 rfl) ?_
      refine a_aload_n K (dq 17 rfl) rfl rfl ?_
      refine a_get K (T := 20) (i := 0) (k := 0) (v := .ref (ρ 21 0)) v_20 rfl rfl in_X7 (Nat.le_of_ble_eq_true rfl) fl_X7_7 rfl (dq 18 rfl) ?_
      refine a_bipush K (dq 19 rfl) (v := 32) rfl ?_
      refine a_iload_n K (dq 20 rfl) rfl rfl ?_
      refine a_iadd K (dq 21 rfl) ?_
      refine a_iconst K (dq 22 rfl) (v := (-1)) rfl ?_
      obtain ⟨c4, h⟩ := ib_some h
      refine a_iast K (T := 21) (i := 0) v_21 rfl rfl c4 (dq 23 rfl) ?_
      refine a_iload_n K (dq 24 rfl) rfl rfl ?_
      refine a_istore_n K (dq 25 rfl) rfl (Nat.le_of_ble_eq_true rfl) (ls' := [some (.ref (ρ 20 0)), none, some (.int v3), some (.int v3), some (.int r2)]) rfl ?_
      refine a_iload K (dq 26 rfl) rfl ?_
      refine a_istore_n K (dq 27 rfl) rfl (Nat.le_of_ble_eq_true rfl) (ls' := [some (.ref (ρ 20 0)), none, some (.int v3), some (.int r2), some (.int r2)]) rfl ?_
      refine a_goto K (tgt := 4) (dq 28 rfl) rfl ?_
      refine a_le2 (ls' := [some (.ref (ρ 20 0)), none, some (.int v3), some (.int r2), none]) ⟨rfl, rfl, rfl, trivial⟩ ?_
      exact ih v3 r2 (sA (sA σ 21 0 (20 + v3).toNatClampNeg v2) 21 0 (32 + v3).toNatClampNeg (-1)) r h K hX
set_option maxRecDepth 20000 in
set_option maxHeartbeats 1000000 in
theorem s_X7_roots {l : Launch} {D : va_G} {ty : Nat → ClassId} {ρ : Nat → Nat → Nat} {N0 : Nat} (S : St l ty ρ N0) (a1 : Int32)  (σ : Sg) (r : Sg) (h : p_X7_roots a1 σ = some r) : AMet l D ty ρ N0 yX7_roots (Cond.code yX7_roots cX7_roots 5 none :: GW) (rmk 2 0 0) [.ref (ρ 20 0), .int a1] σ (.inl none) r := by
  refine am_enter S (by decide) rfl rfl (Nat.le_of_ble_eq_true rfl) ?_
  intro p e s m args below meth c K hX
  have dq := @tat _ _ dt_X7_roots
  unfold p_X7_roots at h
  show WA p l e _ s m args below meth c D ty ρ N0 5 _ 0 [some (.ref (ρ 20 0)), some (.int a1), none, none, none] [] σ 0 0
  refine a_iconst K (dq 0 rfl) (v := (-1)) rfl ?_
  refine a_istore_n K (dq 1 rfl) rfl (Nat.le_of_ble_eq_true rfl) (ls' := [some (.ref (ρ 20 0)), some (.int a1), some (.int (-1)), none, none]) rfl ?_
  refine a_iload_n K (dq 2 rfl) rfl rfl ?_
  refine a_istore_n K (dq 3 rfl) rfl (Nat.le_of_ble_eq_true rfl) (ls' := [some (.ref (ρ 20 0)), some (.int a1), some (.int (-1)), some (.int a1), none]) rfl ?_
  refine a_le2 (ls' := [some (.ref (ρ 20 0)), none, some (.int (-1)), some (.int a1), none]) ⟨rfl, rfl, rfl, trivial⟩ ?_
  exact s_X7_roots_L4 S    400 (-1) a1 σ r h K hX
def t_X7_isLaid : List (Nat × Instr × Nat) := [(0, .iload_n 1, 1), (1, .iload_n 2, 1), (2, .if_icmp .eq 25, 3), (5, .aload_n 0, 1), (6, .iload_n 1, 1), (7, .invokevirtual 69, 3), (10, .iload_n 2, 1), (11, .if_icmp .eq 12, 3), (14, .aload_n 0, 1), (15, .iload_n 2, 1), (16, .invokevirtual 69, 3), (19, .iload_n 1, 1), (20, .if_icmp .ne 7, 3), (23, .iconst 1, 1), (24, .goto 4, 3), (27, .iconst 0, 1), (28, .ireturn, 1)]
theorem dt_X7_isLaid : tblOK cX7_isLaid t_X7_isLaid = true := by decide +kernel
def p_X7_isLaid (a1 : Int32) (a2 : Int32) (σ : Sg) : Option Int32 :=
  if a1 = a2 then (some 0) else ((p_X7_parent a1 σ).bind fun r2 => if r2 = a2 then (some 1) else ((p_X7_parent a2 σ).bind fun r4 => if r4 = a1 then (some 1) else (some 0)))
set_option maxRecDepth 20000 in
set_option maxHeartbeats 1000000 in
theorem s_X7_isLaid {l : Launch} {D : va_G} {ty : Nat → ClassId} {ρ : Nat → Nat → Nat} {N0 : Nat} (S : St l ty ρ N0) (a1 : Int32) (a2 : Int32)  (σ : Sg) (r : Int32) (h : p_X7_isLaid a1 a2 σ = some r) : AMet l D ty ρ N0 yX7_isLaid (Cond.code yX7_isLaid cX7_isLaid 3 (some .boolean) :: GW) (rmk 2 0 0) [.ref (ρ 20 0), .int a1, .int a2] σ (oI r) σ := by
  refine am_enter S (by decide) rfl rfl (Nat.le_of_ble_eq_true rfl) ?_
  intro p e s m args below meth c K hX
  have dq := @tat _ _ dt_X7_isLaid
  unfold p_X7_isLaid at h
  show WA p l e _ s m args below meth c D ty ρ N0 3 _ 0 [some (.ref (ρ 20 0)), some (.int a1), some (.int a2)] [] σ 0 0
  refine a_iload_n K (dq 0 rfl) rfl rfl ?_
  refine a_iload_n K (dq 1 rfl) rfl rfl ?_
  refine a_icmp_eq K (tgt := 27) (dq 2 rfl) rfl (fun c1 => ?_) (fun c1 => ?_)
  · have h := ite_t c1 h
    refine a_iconst K (dq 15 rfl) (v := 0) rfl ?_
    obtain rfl := Option.some.inj h
    exact a_iret K rfl rfl (dq 16 rfl) (Nat.le_of_ble_eq_true rfl) (Nat.le_of_ble_eq_true rfl) rfl rfl
  · have h := ite_f c1 h
    refine a_aload_n K (dq 3 rfl) rfl rfl ?_
    refine a_iload_n K (dq 4 rfl) rfl rfl ?_
    obtain ⟨r2, h2, h⟩ := bnd h
    refine a_callVi K (s_X7_parent S a1  σ r2 h2) v_20 rfl rfl cw_X7_parent ml_X7_69 (by decide) rfl (rest := []) rfl (Nat.le_of_ble_eq_true rfl) (dq 5 rfl) (by decide) ?_
    refine a_iload_n K (dq 6 rfl) rfl rfl ?_
    refine a_icmp_eq K (tgt := 23) (dq 7 rfl) rfl (fun c3 => ?_) (fun c3 => ?_)
    · have h := ite_t c3 h
      refine a_iconst K (dq 13 rfl) (v := 1) rfl ?_
      refine a_goto K (tgt := 28) (dq 14 rfl) rfl ?_
      obtain rfl := Option.some.inj h
      exact a_iret K rfl rfl (dq 16 rfl) (Nat.le_of_ble_eq_true rfl) (Nat.le_of_ble_eq_true rfl) rfl rfl
    · have h := ite_f c3 h
      refine a_aload_n K (dq 8 rfl) rfl rfl ?_
      refine a_iload_n K (dq 9 rfl) rfl rfl ?_
      obtain ⟨r4, h4, h⟩ := bnd h
      refine a_callVi K (s_X7_parent S a2  σ r4 h4) v_20 rfl rfl cw_X7_parent ml_X7_69 (by decide) rfl (rest := []) rfl (Nat.le_of_ble_eq_true rfl) (dq 10 rfl) (by decide) ?_
      refine a_iload_n K (dq 11 rfl) rfl rfl ?_
      refine a_icmp_ne K (tgt := 27) (dq 12 rfl) rfl (fun c5 => ?_) (fun c5 => ?_)
      · have h := ite_f c5 h
        refine a_iconst K (dq 15 rfl) (v := 0) rfl ?_
        obtain rfl := Option.some.inj h
        exact a_iret K rfl rfl (dq 16 rfl) (Nat.le_of_ble_eq_true rfl) (Nat.le_of_ble_eq_true rfl) rfl rfl
      · have h := ite_t c5 h
        refine a_iconst K (dq 13 rfl) (v := 1) rfl ?_
        refine a_goto K (tgt := 28) (dq 14 rfl) rfl ?_
        obtain rfl := Option.some.inj h
        exact a_iret K rfl rfl (dq 16 rfl) (Nat.le_of_ble_eq_true rfl) (Nat.le_of_ble_eq_true rfl) rfl rfl
def t_X7_childOf : List (Nat × Instr × Nat) := [(0, .aload_n 0, 1), (1, .iload_n 1, 1), (2, .invokevirtual 69, 3), (5, .iload_n 2, 1), (6, .if_icmp .ne 7, 3), (9, .iload_n 1, 1), (10, .goto 4, 3), (13, .iload_n 2, 1), (14, .ireturn, 1)]
theorem dt_X7_childOf : tblOK cX7_childOf t_X7_childOf = true := by decide +kernel
def p_X7_childOf (a1 : Int32) (a2 : Int32) (σ : Sg) : Option Int32 :=
  (p_X7_parent a1 σ).bind fun r1 => if r1 = a2 then (some a1) else (some a2)
set_option maxRecDepth 20000 in
set_option maxHeartbeats 1000000 in
theorem s_X7_childOf {l : Launch} {D : va_G} {ty : Nat → ClassId} {ρ : Nat → Nat → Nat} {N0 : Nat} (S : St l ty ρ N0) (a1 : Int32) (a2 : Int32)  (σ : Sg) (r : Int32) (h : p_X7_childOf a1 a2 σ = some r) : AMet l D ty ρ N0 yX7_childOf (Cond.code yX7_childOf cX7_childOf 3 (some .int) :: GW) (rmk 2 0 0) [.ref (ρ 20 0), .int a1, .int a2] σ (oI r) σ := by
  refine am_enter S (by decide) rfl rfl (Nat.le_of_ble_eq_true rfl) ?_
  intro p e s m args below meth c K hX
  have dq := @tat _ _ dt_X7_childOf
  unfold p_X7_childOf at h
  show WA p l e _ s m args below meth c D ty ρ N0 3 _ 0 [some (.ref (ρ 20 0)), some (.int a1), some (.int a2)] [] σ 0 0
  refine a_aload_n K (dq 0 rfl) rfl rfl ?_
  refine a_iload_n K (dq 1 rfl) rfl rfl ?_
  obtain ⟨r1, h1, h⟩ := bnd h
  refine a_callVi K (s_X7_parent S a1  σ r1 h1) v_20 rfl rfl cw_X7_parent ml_X7_69 (by decide) rfl (rest := []) rfl (Nat.le_of_ble_eq_true rfl) (dq 2 rfl) (by decide) ?_
  refine a_iload_n K (dq 3 rfl) rfl rfl ?_
  refine a_icmp_ne K (tgt := 13) (dq 4 rfl) rfl (fun c2 => ?_) (fun c2 => ?_)
  · have h := ite_f c2 h
    refine a_iload_n K (dq 7 rfl) rfl rfl ?_
    obtain rfl := Option.some.inj h
    exact a_iret K rfl rfl (dq 8 rfl) (Nat.le_of_ble_eq_true rfl) (Nat.le_of_ble_eq_true rfl) rfl rfl
  · have h := ite_t c2 h
    refine a_iload_n K (dq 5 rfl) rfl rfl ?_
    refine a_goto K (tgt := 14) (dq 6 rfl) rfl ?_
    obtain rfl := Option.some.inj h
    exact a_iret K rfl rfl (dq 8 rfl) (Nat.le_of_ble_eq_true rfl) (Nat.le_of_ble_eq_true rfl) rfl rfl
def t_X7_prefers : List (Nat × Instr × Nat) := [(0, .aload_n 0, 1), (1, .getfield 7, 3), (4, .bipush 32, 2), (6, .iload_n 1, 1), (7, .iadd, 1), (8, .iaload, 1), (9, .ireturn, 1)]
theorem dt_X7_prefers : tblOK cX7_prefers t_X7_prefers = true := by decide +kernel
def p_X7_prefers (a1 : Int32) (σ : Sg) : Option Int32 :=
  if ib (32 + a1) 44 then (some (gA σ 21 0 (32 + a1).toNatClampNeg)) else none
set_option maxRecDepth 20000 in
set_option maxHeartbeats 1000000 in
theorem s_X7_prefers {l : Launch} {D : va_G} {ty : Nat → ClassId} {ρ : Nat → Nat → Nat} {N0 : Nat} (S : St l ty ρ N0) (a1 : Int32)  (σ : Sg) (r : Int32) (h : p_X7_prefers a1 σ = some r) : AMet l D ty ρ N0 yX7_prefers (Cond.code yX7_prefers cX7_prefers 2 (some .int) :: GW) (rmk 1 0 0) [.ref (ρ 20 0), .int a1] σ (oI r) σ := by
  refine am_enter S (by decide) rfl rfl (Nat.le_of_ble_eq_true rfl) ?_
  intro p e s m args below meth c K hX
  have dq := @tat _ _ dt_X7_prefers
  unfold p_X7_prefers at h
  show WA p l e _ s m args below meth c D ty ρ N0 2 _ 0 [some (.ref (ρ 20 0)), some (.int a1)] [] σ 0 0
  refine a_aload_n K (dq 0 rfl) rfl rfl ?_
  refine a_get K (T := 20) (i := 0) (k := 0) (v := .ref (ρ 21 0)) v_20 rfl rfl in_X7 (Nat.le_of_ble_eq_true rfl) fl_X7_7 rfl (dq 1 rfl) ?_
  refine a_bipush K (dq 2 rfl) (v := 32) rfl ?_
  refine a_iload_n K (dq 3 rfl) rfl rfl ?_
  refine a_iadd K (dq 4 rfl) ?_
  obtain ⟨c1, h⟩ := ib_some h
  refine a_iald K (T := 21) (i := 0) v_21 rfl rfl c1 (dq 5 rfl) ?_
  obtain rfl := Option.some.inj h
  exact a_iret K rfl rfl (dq 6 rfl) (Nat.le_of_ble_eq_true rfl) (Nat.le_of_ble_eq_true rfl) rfl rfl
def t_X7_exposes : List (Nat × Instr × Nat) := [(0, .iconst 0, 1), (1, .istore_n 3, 1), (2, .iconst (-1), 1), (3, .istore 4, 2), (5, .iload_n 1, 1), (6, .istore 5, 2), (8, .iload 5, 2), (10, .ifCond .lt 53, 3), (13, .iload_n 3, 1), (14, .aload_n 0, 1), (15, .iload 5, 2), (17, .invokevirtual 130, 3), (20, .iload 4, 2), (22, .if_icmp .ne 7, 3), (25, .iconst 0, 1), (26, .goto 4, 3), (29, .iconst 1, 1), (30, .iadd, 1), (31, .istore_n 3, 1), (32, .iload_n 2, 1), (33, .ifCond .eq 15, 3), (36, .aload_n 0, 1), (37, .getfield 7, 3), (40, .bipush 32, 2), (42, .iload 5, 2), (44, .iadd, 1), (45, .iload 4, 2), (47, .iastore, 1), (48, .iload 5, 2), (50, .istore 4, 2), (52, .aload_n 0, 1), (53, .iload 5, 2), (55, .invokevirtual 69, 3), (58, .istore 5, 2), (60, .goto (-52), 3), (63, .iload_n 3, 1), (64, .ireturn, 1)]
theorem dt_X7_exposes : tblOK cX7_exposes t_X7_exposes = true := by decide +kernel
def p_X7_exposes_L8  : Nat → Int32 → Int32 → Int32 → Int32 → Sg → Option ((Int32 × Sg))
  | 0, _, _, _, _, _ => none
  | n + 1, v2, v3, v4, v5, σ => if v5 < 0 then (some (v3, σ)) else ((p_X7_prefers v5 σ).bind fun r2 => if r2 = v4 then (if v2 = 0 then ((p_X7_parent v5 σ).bind fun r9 => p_X7_exposes_L8 n v2 (v3 + 0) v5 r9 σ) else (if ib (32 + v5) 44 then ((p_X7_parent v5 (sA σ 21 0 (32 + v5).toNatClampNeg v4)).bind fun r11 => p_X7_exposes_L8 n v2 (v3 + 0) v5 r11 (sA σ 21 0 (32 + v5).toNatClampNeg v4)) else none)) else (if v2 = 0 then ((p_X7_parent v5 σ).bind fun r5 => p_X7_exposes_L8 n v2 (v3 + 1) v5 r5 σ) else (if ib (32 + v5) 44 then ((p_X7_parent v5 (sA σ 21 0 (32 + v5).toNatClampNeg v4)).bind fun r7 => p_X7_exposes_L8 n v2 (v3 + 1) v5 r7 (sA σ 21 0 (32 + v5).toNatClampNeg v4)) else none)))
def p_X7_exposes (a1 : Int32) (a2 : Int32) (σ : Sg) : Option (Int32 × Sg) :=
  p_X7_exposes_L8 400 a2 0 (-1) a1 σ
set_option maxRecDepth 20000 in
set_option maxHeartbeats 1000000 in
theorem s_X7_exposes_L8 {l : Launch} {D : va_G} {ty : Nat → ClassId} {ρ : Nat → Nat → Nat} {N0 : Nat} (S : St l ty ρ N0)   : ∀ (n : Nat) (v2 : Int32) (v3 : Int32) (v4 : Int32) (v5 : Int32) (σ : Sg) (r : (Int32 × Sg)) (h : p_X7_exposes_L8  n v2 v3 v4 v5 σ = some r) {p : Program} {e : Env} {s : State} {m : MethodId} {args : Array Value} {below : List Frame} {meth : Method} {c : Code} (K : Cx p l s m args meth c cX7_exposes 6 RX7 (some .int) D ty ρ N0) (hX : ∀ x ∈ c.exceptionTable.toList, False), WA p l e (rmk 2 0 0) s m args below meth c D ty ρ N0 6 (vx_MQ below (oQ D ty ρ N0 (oI r.1) r.2) (oX D ty ρ N0 (oI r.1) r.2) args s 0 0 (fun q => N0 ≤ q)) 8 [some (.ref (ρ 20 0)), none, some (.int v2), some (.int v3), some (.int v4), some (.int v5)] [] σ 0 0 := by
  intro n
  induction n with
  | zero =>
    intro v2 v3 v4 v5 σ r h
    simp only [p_X7_exposes_L8] at h
    cases h
  | succ n ih =>
    intro v2 v3 v4 v5 σ r h p e s m args below meth c K hX
    have dq := @tat _ _ dt_X7_exposes
    rw [p_X7_exposes_L8] at h
    refine a_iload K (dq 6 rfl) rfl ?_
    refine a_if_lt K (tgt := 63) (dq 7 rfl) rfl (fun c1 => ?_) (fun c1 => ?_)
    · have h := ite_t c1 h
      refine a_iload_n K (dq 35 rfl) rfl rfl ?_
      obtain rfl := Option.some.inj h
      exact a_iret K rfl rfl (dq 36 rfl) (Nat.le_of_ble_eq_true rfl) (Nat.le_of_ble_eq_true rfl) rfl rfl
    · have h := ite_f c1 h
      refine a_iload_n K (dq 8 rfl) rfl rfl ?_
      refine a_aload_n K (dq 9 rfl) rfl rfl ?_
      refine a_iload K (dq 10 rfl) rfl ?_
      obtain ⟨r2, h2, h⟩ := bnd h
      refine a_callVi K (s_X7_prefers S v5  σ r2 h2) v_20 rfl rfl cw_X7_prefers ml_X7_130 (by decide) rfl (rest := [.int v3]) rfl (Nat.le_of_ble_eq_true rfl) (dq 11 rfl) (by decide) ?_
      refine a_iload K (dq 12 rfl) rfl ?_
      refine a_icmp_ne K (tgt := 29) (dq 13 rfl) rfl (fun c3 => ?_) (fun c3 => ?_)
      · have h := ite_f c3 h
        refine a_iconst K (dq 16 rfl) (v := 1) rfl ?_
        refine a_iadd K (dq 17 rfl) ?_
        refine a_istore_n K (dq 18 rfl) rfl (Nat.le_of_ble_eq_true rfl) (ls' := [some (.ref (ρ 20 0)), none, some (.int v2), some (.int (v3 + 1)), some (.int v4), some (.int v5)]) rfl ?_
        refine a_iload_n K (dq 19 rfl) rfl rfl ?_
        refine a_if_eq K (tgt := 48) (dq 20 rfl) rfl (fun c4 => ?_) (fun c4 => ?_)
        · have h := ite_t c4 h
          refine a_iload K (dq 28 rfl) rfl ?_
          refine a_istore K (dq 29 rfl) (Nat.le_of_ble_eq_true rfl) (ls' := [some (.ref (ρ 20 0)), none, some (.int v2), some (.int (v3 + 1)), some (.int v5), some (.int v5)]) rfl ?_
          refine a_aload_n K (dq 30 rfl) rfl rfl ?_
          refine a_iload K (dq 31 rfl) rfl ?_
          obtain ⟨r5, h5, h⟩ := bnd h
          refine a_callVi K (s_X7_parent S v5  σ r5 h5) v_20 rfl rfl cw_X7_parent ml_X7_69 (by decide) rfl (rest := []) rfl (Nat.le_of_ble_eq_true rfl) (dq 32 rfl) (by decide) ?_
          refine a_istore K (dq 33 rfl) (Nat.le_of_ble_eq_true rfl) (ls' := [some (.ref (ρ 20 0)), none, some (.int v2), some (.int (v3 + 1)), some (.int v5), some (.int r5)]) rfl ?_
          refine a_goto K (tgt := 8) (dq 34 rfl) rfl ?_
          exact ih v2 (v3 + 1) v5 r5 σ r h K hX
        · have h := ite_f c4 h
          refine a_aload_n K (dq 21 rfl) rfl rfl ?_
          refine a_get K (T := 20) (i := 0) (k := 0) (v := .ref (ρ 21 0)) v_20 rfl rfl in_X7 (Nat.le_of_ble_eq_true rfl) fl_X7_7 rfl (dq 22 rfl) ?_
          refine a_bipush K (dq 23 rfl) (v := 32) rfl ?_
          refine a_iload K (dq 24 rfl) rfl ?_
          refine a_iadd K (dq 25 rfl) ?_
          refine a_iload K (dq 26 rfl) rfl ?_
          obtain ⟨c6, h⟩ := ib_some h
          refine a_iast K (T := 21) (i := 0) v_21 rfl rfl c6 (dq 27 rfl) ?_
          refine a_iload K (dq 28 rfl) rfl ?_
          refine a_istore K (dq 29 rfl) (Nat.le_of_ble_eq_true rfl) (ls' := [some (.ref (ρ 20 0)), none, some (.int v2), some (.int (v3 + 1)), some (.int v5), some (.int v5)]) rfl ?_
          refine a_aload_n K (dq 30 rfl) rfl rfl ?_
          refine a_iload K (dq 31 rfl) rfl ?_
          obtain ⟨r7, h7, h⟩ := bnd h
          refine a_callVi K (s_X7_parent S v5  (sA σ 21 0 (32 + v5).toNatClampNeg v4) r7 h7) v_20 rfl rfl cw_X7_parent ml_X7_69 (by decide) rfl (rest := []) rfl (Nat.le_of_ble_eq_true rfl) (dq 32 rfl) (by decide) ?_
          refine a_istore K (dq 33 rfl) (Nat.le_of_ble_eq_true rfl) (ls' := [some (.ref (ρ 20 0)), none, some (.int v2), some (.int (v3 + 1)), some (.int v5), some (.int r7)]) rfl ?_
          refine a_goto K (tgt := 8) (dq 34 rfl) rfl ?_
          exact ih v2 (v3 + 1) v5 r7 (sA σ 21 0 (32 + v5).toNatClampNeg v4) r h K hX
      · have h := ite_t c3 h
        refine a_iconst K (dq 14 rfl) (v := 0) rfl ?_
        refine a_goto K (tgt := 30) (dq 15 rfl) rfl ?_
        refine a_iadd K (dq 17 rfl) ?_
        refine a_istore_n K (dq 18 rfl) rfl (Nat.le_of_ble_eq_true rfl) (ls' := [some (.ref (ρ 20 0)), none, some (.int v2), some (.int (v3 + 0)), some (.int v4), some (.int v5)]) rfl ?_
        refine a_iload_n K (dq 19 rfl) rfl rfl ?_
        refine a_if_eq K (tgt := 48) (dq 20 rfl) rfl (fun c8 => ?_) (fun c8 => ?_)
        · have h := ite_t c8 h
          refine a_iload K (dq 28 rfl) rfl ?_
          refine a_istore K (dq 29 rfl) (Nat.le_of_ble_eq_true rfl) (ls' := [some (.ref (ρ 20 0)), none, some (.int v2), some (.int (v3 + 0)), some (.int v5), some (.int v5)]) rfl ?_
          refine a_aload_n K (dq 30 rfl) rfl rfl ?_
          refine a_iload K (dq 31 rfl) rfl ?_
          obtain ⟨r9, h9, h⟩ := bnd h
          refine a_callVi K (s_X7_parent S v5  σ r9 h9) v_20 rfl rfl cw_X7_parent ml_X7_69 (by decide) rfl (rest := []) rfl (Nat.le_of_ble_eq_true rfl) (dq 32 rfl) (by decide) ?_
          refine a_istore K (dq 33 rfl) (Nat.le_of_ble_eq_true rfl) (ls' := [some (.ref (ρ 20 0)), none, some (.int v2), some (.int (v3 + 0)), some (.int v5), some (.int r9)]) rfl ?_
          refine a_goto K (tgt := 8) (dq 34 rfl) rfl ?_
          exact ih v2 (v3 + 0) v5 r9 σ r h K hX
        · have h := ite_f c8 h
          refine a_aload_n K (dq 21 rfl) rfl rfl ?_
          refine a_get K (T := 20) (i := 0) (k := 0) (v := .ref (ρ 21 0)) v_20 rfl rfl in_X7 (Nat.le_of_ble_eq_true rfl) fl_X7_7 rfl (dq 22 rfl) ?_
          refine a_bipush K (dq 23 rfl) (v := 32) rfl ?_
          refine a_iload K (dq 24 rfl) rfl ?_
          refine a_iadd K (dq 25 rfl) ?_
          refine a_iload K (dq 26 rfl) rfl ?_
          obtain ⟨c10, h⟩ := ib_some h
          refine a_iast K (T := 21) (i := 0) v_21 rfl rfl c10 (dq 27 rfl) ?_
          refine a_iload K (dq 28 rfl) rfl ?_
          refine a_istore K (dq 29 rfl) (Nat.le_of_ble_eq_true rfl) (ls' := [some (.ref (ρ 20 0)), none, some (.int v2), some (.int (v3 + 0)), some (.int v5), some (.int v5)]) rfl ?_
          refine a_aload_n K (dq 30 rfl) rfl rfl ?_
          refine a_iload K (dq 31 rfl) rfl ?_
          obtain ⟨r11, h11, h⟩ := bnd h
          refine a_callVi K (s_X7_parent S v5  (sA σ 21 0 (32 + v5).toNatClampNeg v4) r11 h11) v_20 rfl rfl cw_X7_parent ml_X7_69 (by decide) rfl (rest := []) rfl (Nat.le_of_ble_eq_true rfl) (dq 32 rfl) (by decide) ?_
          refine a_istore K (dq 33 rfl) (Nat.le_of_ble_eq_true rfl) (ls' := [some (.ref (ρ 20 0)), none, some (.int v2), some (.int (v3 + 0)), some (.int v5), some (.int r11)]) rfl ?_
          refine a_goto K (tgt := 8) (dq 34 rfl) rfl ?_
          exact ih v2 (v3 + 0) v5 r11 (sA σ 21 0 (32 + v5).toNatClampNeg v4) r h K hX
set_option maxRecDepth 20000 in
set_option maxHeartbeats 1000000 in
theorem s_X7_exposes {l : Launch} {D : va_G} {ty : Nat → ClassId} {ρ : Nat → Nat → Nat} {N0 : Nat} (S : St l ty ρ N0) (a1 : Int32) (a2 : Int32)  (σ : Sg) (r : (Int32 × Sg)) (h : p_X7_exposes a1 a2 σ = some r) : AMet l D ty ρ N0 yX7_exposes (Cond.code yX7_exposes cX7_exposes 6 (some .int) :: GW) (rmk 2 0 0) [.ref (ρ 20 0), .int a1, .int a2] σ (oI r.1) r.2 := by
  refine am_enter S (by decide) rfl rfl (Nat.le_of_ble_eq_true rfl) ?_
  intro p e s m args below meth c K hX
  have dq := @tat _ _ dt_X7_exposes
  unfold p_X7_exposes at h
  show WA p l e _ s m args below meth c D ty ρ N0 6 _ 0 [some (.ref (ρ 20 0)), some (.int a1), some (.int a2), none, none, none] [] σ 0 0
  refine a_iconst K (dq 0 rfl) (v := 0) rfl ?_
  refine a_istore_n K (dq 1 rfl) rfl (Nat.le_of_ble_eq_true rfl) (ls' := [some (.ref (ρ 20 0)), some (.int a1), some (.int a2), some (.int 0), none, none]) rfl ?_
  refine a_iconst K (dq 2 rfl) (v := (-1)) rfl ?_
  refine a_istore K (dq 3 rfl) (Nat.le_of_ble_eq_true rfl) (ls' := [some (.ref (ρ 20 0)), some (.int a1), some (.int a2), some (.int 0), some (.int (-1)), none]) rfl ?_
  refine a_iload_n K (dq 4 rfl) rfl rfl ?_
  refine a_istore K (dq 5 rfl) (Nat.le_of_ble_eq_true rfl) (ls' := [some (.ref (ρ 20 0)), some (.int a1), some (.int a2), some (.int 0), some (.int (-1)), some (.int a1)]) rfl ?_
  refine a_le2 (ls' := [some (.ref (ρ 20 0)), none, some (.int a2), some (.int 0), some (.int (-1)), some (.int a1)]) ⟨rfl, rfl, rfl, rfl, rfl, trivial⟩ ?_
  exact s_X7_exposes_L8 S    400 a2 0 (-1) a1 σ r h K hX
def t_X7_toll : List (Nat × Instr × Nat) := [(0, .aload_n 0, 1), (1, .getfield 7, 3), (4, .bipush 8, 2), (6, .iload_n 1, 1), (7, .iadd, 1), (8, .iaload, 1), (9, .ireturn, 1)]
theorem dt_X7_toll : tblOK cX7_toll t_X7_toll = true := by decide +kernel
def p_X7_toll (a1 : Int32) (σ : Sg) : Option Int32 :=
  if ib (8 + a1) 44 then (some (gA σ 21 0 (8 + a1).toNatClampNeg)) else none
set_option maxRecDepth 20000 in
set_option maxHeartbeats 1000000 in
theorem s_X7_toll {l : Launch} {D : va_G} {ty : Nat → ClassId} {ρ : Nat → Nat → Nat} {N0 : Nat} (S : St l ty ρ N0) (a1 : Int32)  (σ : Sg) (r : Int32) (h : p_X7_toll a1 σ = some r) : AMet l D ty ρ N0 yX7_toll (Cond.code yX7_toll cX7_toll 2 (some .int) :: GW) (rmk 1 0 0) [.ref (ρ 20 0), .int a1] σ (oI r) σ := by
  refine am_enter S (by decide) rfl rfl (Nat.le_of_ble_eq_true rfl) ?_
  intro p e s m args below meth c K hX
  have dq := @tat _ _ dt_X7_toll
  unfold p_X7_toll at h
  show WA p l e _ s m args below meth c D ty ρ N0 2 _ 0 [some (.ref (ρ 20 0)), some (.int a1)] [] σ 0 0
  refine a_aload_n K (dq 0 rfl) rfl rfl ?_
  refine a_get K (T := 20) (i := 0) (k := 0) (v := .ref (ρ 21 0)) v_20 rfl rfl in_X7 (Nat.le_of_ble_eq_true rfl) fl_X7_7 rfl (dq 1 rfl) ?_
  refine a_bipush K (dq 2 rfl) (v := 8) rfl ?_
  refine a_iload_n K (dq 3 rfl) rfl rfl ?_
  refine a_iadd K (dq 4 rfl) ?_
  obtain ⟨c1, h⟩ := ib_some h
  refine a_iald K (T := 21) (i := 0) v_21 rfl rfl c1 (dq 5 rfl) ?_
  obtain rfl := Option.some.inj h
  exact a_iret K rfl rfl (dq 6 rfl) (Nat.le_of_ble_eq_true rfl) (Nat.le_of_ble_eq_true rfl) rfl rfl
def t_X7_pathToll : List (Nat × Instr × Nat) := [(0, .iconst 0, 1), (1, .istore_n 2, 1), (2, .iload_n 1, 1), (3, .istore_n 3, 1), (4, .iload_n 3, 1), (5, .aload_n 0, 1), (6, .getfield 87, 3), (9, .if_icmp .ge 22, 3), (12, .iload_n 2, 1), (13, .aload_n 0, 1), (14, .aload_n 0, 1), (15, .getfield 33, 3), (18, .iload_n 3, 1), (19, .iaload, 1), (20, .invokevirtual 93, 3), (23, .iadd, 1), (24, .istore_n 2, 1), (25, .iinc 3 1, 3), (28, .goto (-24), 3), (31, .iload_n 2, 1), (32, .ireturn, 1)]
theorem dt_X7_pathToll : tblOK cX7_pathToll t_X7_pathToll = true := by decide +kernel
def p_X7_pathToll_L4  (σ : Sg) : Nat → Int32 → Int32 → Option Int32
  | 0, _, _ => none
  | n + 1, v2, v3 => if (gI σ 20 0 18) ≤ v3 then (some v2) else (if ib v3 12 then ((p_X7_toll (gA σ 27 0 v3.toNatClampNeg) σ).bind fun r3 => p_X7_pathToll_L4 σ n (v2 + r3) (v3 + 1)) else none)
def p_X7_pathToll (a1 : Int32) (σ : Sg) : Option Int32 :=
  p_X7_pathToll_L4 σ 400 0 a1
set_option maxRecDepth 20000 in
set_option maxHeartbeats 1000000 in
theorem s_X7_pathToll_L4 {l : Launch} {D : va_G} {ty : Nat → ClassId} {ρ : Nat → Nat → Nat} {N0 : Nat} (S : St l ty ρ N0)   (σ : Sg) : ∀ (n : Nat) (v2 : Int32) (v3 : Int32) (r : Int32) (h : p_X7_pathToll_L4  σ n v2 v3 = some r) {p : Program} {e : Env} {s : State} {m : MethodId} {args : Array Value} {below : List Frame} {meth : Method} {c : Code} (K : Cx p l s m args meth c cX7_pathToll 4 RX7 (some .int) D ty ρ N0) (hX : ∀ x ∈ c.exceptionTable.toList, False), WA p l e (rmk 2 0 0) s m args below meth c D ty ρ N0 4 (vx_MQ below (oQ D ty ρ N0 (oI r) σ) (oX D ty ρ N0 (oI r) σ) args s 0 0 (fun q => N0 ≤ q)) 4 [some (.ref (ρ 20 0)), none, some (.int v2), some (.int v3)] [] σ 0 0 := by
  intro n
  induction n with
  | zero =>
    intro v2 v3 r h
    simp only [p_X7_pathToll_L4] at h
    cases h
  | succ n ih =>
    intro v2 v3 r h p e s m args below meth c K hX
    have dq := @tat _ _ dt_X7_pathToll
    rw [p_X7_pathToll_L4] at h
    refine a_iload_n K (dq 4 rfl) rfl rfl ?_
    refine a_aload_n K (dq 5 rfl) rfl rfl ?_
    refine a_get K (T := 20) (i := 0) (k := 18) (v := .int (gI σ 20 0 18)) v_20 rfl rfl in_X7 (Nat.le_of_ble_eq_true rfl) fl_X7_87 rfl (dq 6 rfl) ?_
    refine a_icmp_ge K (tgt := 31) (dq 7 rfl) rfl (fun c1 => ?_) (fun c1 => ?_)
    · have h := ite_t c1 h
      refine a_iload_n K (dq 19 rfl) rfl rfl ?_
      obtain rfl := Option.some.inj h
      exact a_iret K rfl rfl (dq 20 rfl) (Nat.le_of_ble_eq_true rfl) (Nat.le_of_ble_eq_true rfl) rfl rfl
    · have h := ite_f c1 h
      refine a_iload_n K (dq 8 rfl) rfl rfl ?_
      refine a_aload_n K (dq 9 rfl) rfl rfl ?_
      refine a_aload_n K (dq 10 rfl) rfl rfl ?_
      refine a_get K (T := 20) (i := 0) (k := 17) (v := .ref (ρ 27 0)) v_20 rfl rfl in_X7 (Nat.le_of_ble_eq_true rfl) fl_X7_33 rfl (dq 11 rfl) ?_
      refine a_iload_n K (dq 12 rfl) rfl rfl ?_
      obtain ⟨c2, h⟩ := ib_some h
      refine a_iald K (T := 27) (i := 0) v_27 rfl rfl c2 (dq 13 rfl) ?_
      obtain ⟨r3, h3, h⟩ := bnd h
      refine a_callVi K (s_X7_toll S (gA σ 27 0 v3.toNatClampNeg)  σ r3 h3) v_20 rfl rfl cw_X7_toll ml_X7_93 (by decide) rfl (rest := [.int v2]) rfl (Nat.le_of_ble_eq_true rfl) (dq 14 rfl) (by decide) ?_
      refine a_iadd K (dq 15 rfl) ?_
      refine a_istore_n K (dq 16 rfl) rfl (Nat.le_of_ble_eq_true rfl) (ls' := [some (.ref (ρ 20 0)), none, some (.int (v2 + r3)), some (.int v3)]) rfl ?_
      refine a_iinc K (dq 17 rfl) rfl (v := (v3 + 1)) rfl (Nat.le_of_ble_eq_true rfl) (ls' := [some (.ref (ρ 20 0)), none, some (.int (v2 + r3)), some (.int (v3 + 1))]) rfl ?_
      refine a_goto K (tgt := 4) (dq 18 rfl) rfl ?_
      exact ih (v2 + r3) (v3 + 1) r h K hX
set_option maxRecDepth 20000 in
set_option maxHeartbeats 1000000 in
theorem s_X7_pathToll {l : Launch} {D : va_G} {ty : Nat → ClassId} {ρ : Nat → Nat → Nat} {N0 : Nat} (S : St l ty ρ N0) (a1 : Int32)  (σ : Sg) (r : Int32) (h : p_X7_pathToll a1 σ = some r) : AMet l D ty ρ N0 yX7_pathToll (Cond.code yX7_pathToll cX7_pathToll 4 (some .int) :: GW) (rmk 2 0 0) [.ref (ρ 20 0), .int a1] σ (oI r) σ := by
  refine am_enter S (by decide) rfl rfl (Nat.le_of_ble_eq_true rfl) ?_
  intro p e s m args below meth c K hX
  have dq := @tat _ _ dt_X7_pathToll
  unfold p_X7_pathToll at h
  show WA p l e _ s m args below meth c D ty ρ N0 4 _ 0 [some (.ref (ρ 20 0)), some (.int a1), none, none] [] σ 0 0
  refine a_iconst K (dq 0 rfl) (v := 0) rfl ?_
  refine a_istore_n K (dq 1 rfl) rfl (Nat.le_of_ble_eq_true rfl) (ls' := [some (.ref (ρ 20 0)), some (.int a1), some (.int 0), none]) rfl ?_
  refine a_iload_n K (dq 2 rfl) rfl rfl ?_
  refine a_istore_n K (dq 3 rfl) rfl (Nat.le_of_ble_eq_true rfl) (ls' := [some (.ref (ρ 20 0)), some (.int a1), some (.int 0), some (.int a1)]) rfl ?_
  refine a_le2 (ls' := [some (.ref (ρ 20 0)), none, some (.int 0), some (.int a1)]) ⟨rfl, rfl, rfl, trivial⟩ ?_
  exact s_X7_pathToll_L4 S   σ 400 0 a1 r h K hX
def t_X7_fails : List (Nat × Instr × Nat) := [(0, .aload_n 0, 1), (1, .iload_n 1, 1), (2, .putfield 39, 3), (5, .iload_n 1, 1), (6, .ifCond .le 7, 3), (9, .iconst 1, 1), (10, .goto 4, 3), (13, .iconst 0, 1), (14, .ireturn, 1)]
theorem dt_X7_fails : tblOK cX7_fails t_X7_fails = true := by decide +kernel
def p_X7_fails (a1 : Int32) (σ : Sg) : Option (Int32 × Sg) :=
  if a1 ≤ 0 then (some (0, sI σ 20 0 8 a1)) else (some (1, sI σ 20 0 8 a1))
set_option maxRecDepth 20000 in
set_option maxHeartbeats 1000000 in
theorem s_X7_fails {l : Launch} {D : va_G} {ty : Nat → ClassId} {ρ : Nat → Nat → Nat} {N0 : Nat} (S : St l ty ρ N0) (a1 : Int32)  (σ : Sg) (r : (Int32 × Sg)) (h : p_X7_fails a1 σ = some r) : AMet l D ty ρ N0 yX7_fails (Cond.code yX7_fails cX7_fails 2 (some .boolean) :: GW) (rmk 1 0 0) [.ref (ρ 20 0), .int a1] σ (oI r.1) r.2 := by
  refine am_enter S (by decide) rfl rfl (Nat.le_of_ble_eq_true rfl) ?_
  intro p e s m args below meth c K hX
  have dq := @tat _ _ dt_X7_fails
  unfold p_X7_fails at h
  show WA p l e _ s m args below meth c D ty ρ N0 2 _ 0 [some (.ref (ρ 20 0)), some (.int a1)] [] σ 0 0
  refine a_aload_n K (dq 0 rfl) rfl rfl ?_
  refine a_iload_n K (dq 1 rfl) rfl rfl ?_
  refine a_put K (T := 20) (i := 0) (k := 8) v_20 rfl rfl in_X7 tyX7 tyX7_ok nmX7 (Nat.le_of_ble_eq_true rfl) fl_X7_39 rfl rfl (tyX7_ok 8 (by decide)) rfl rfl (dq 2 rfl) ?_
  refine a_iload_n K (dq 3 rfl) rfl rfl ?_
  refine a_if_le K (tgt := 13) (dq 4 rfl) rfl (fun c1 => ?_) (fun c1 => ?_)
  · have h := ite_t c1 h
    refine a_iconst K (dq 7 rfl) (v := 0) rfl ?_
    obtain rfl := Option.some.inj h
    exact a_iret K rfl rfl (dq 8 rfl) (Nat.le_of_ble_eq_true rfl) (Nat.le_of_ble_eq_true rfl) rfl rfl
  · have h := ite_f c1 h
    refine a_iconst K (dq 5 rfl) (v := 1) rfl ?_
    refine a_goto K (tgt := 14) (dq 6 rfl) rfl ?_
    obtain rfl := Option.some.inj h
    exact a_iret K rfl rfl (dq 8 rfl) (Nat.le_of_ble_eq_true rfl) (Nat.le_of_ble_eq_true rfl) rfl rfl
def t_X7_children : List (Nat × Instr × Nat) := [(0, .iconst 0, 1), (1, .istore_n 2, 1), (2, .iconst 0, 1), (3, .istore_n 3, 1), (4, .iload_n 3, 1), (5, .aload_n 0, 1), (6, .getfield 7, 3), (9, .iconst 0, 1), (10, .iaload, 1), (11, .if_icmp .ge 26, 3), (14, .iload_n 2, 1), (15, .aload_n 0, 1), (16, .iload_n 3, 1), (17, .invokevirtual 69, 3), (20, .iload_n 1, 1), (21, .if_icmp .ne 7, 3), (24, .iconst 1, 1), (25, .goto 4, 3), (28, .iconst 0, 1), (29, .iadd, 1), (30, .istore_n 2, 1), (31, .iinc 3 1, 3), (34, .goto (-30), 3), (37, .iload_n 2, 1), (38, .ireturn, 1)]
theorem dt_X7_children : tblOK cX7_children t_X7_children = true := by decide +kernel
def p_X7_children_L4  (σ : Sg) : Nat → Int32 → Int32 → Int32 → Option Int32
  | 0, _, _, _ => none
  | n + 1, v1, v2, v3 => if (gA σ 21 0 0) ≤ v3 then (some v2) else ((p_X7_parent v3 σ).bind fun r2 => if r2 = v1 then (p_X7_children_L4 σ n v1 (v2 + 1) (v3 + 1)) else (p_X7_children_L4 σ n v1 (v2 + 0) (v3 + 1)))
def p_X7_children (a1 : Int32) (σ : Sg) : Option Int32 :=
  p_X7_children_L4 σ 400 a1 0 0
set_option maxRecDepth 20000 in
set_option maxHeartbeats 1000000 in
theorem s_X7_children_L4 {l : Launch} {D : va_G} {ty : Nat → ClassId} {ρ : Nat → Nat → Nat} {N0 : Nat} (S : St l ty ρ N0)   (σ : Sg) : ∀ (n : Nat) (v1 : Int32) (v2 : Int32) (v3 : Int32) (r : Int32) (h : p_X7_children_L4  σ n v1 v2 v3 = some r) {p : Program} {e : Env} {s : State} {m : MethodId} {args : Array Value} {below : List Frame} {meth : Method} {c : Code} (K : Cx p l s m args meth c cX7_children 4 RX7 (some .int) D ty ρ N0) (hX : ∀ x ∈ c.exceptionTable.toList, False), WA p l e (rmk 2 0 0) s m args below meth c D ty ρ N0 4 (vx_MQ below (oQ D ty ρ N0 (oI r) σ) (oX D ty ρ N0 (oI r) σ) args s 0 0 (fun q => N0 ≤ q)) 4 [some (.ref (ρ 20 0)), some (.int v1), some (.int v2), some (.int v3)] [] σ 0 0 := by
  intro n
  induction n with
  | zero =>
    intro v1 v2 v3 r h
    simp only [p_X7_children_L4] at h
    cases h
  | succ n ih =>
    intro v1 v2 v3 r h p e s m args below meth c K hX
    have dq := @tat _ _ dt_X7_children
    rw [p_X7_children_L4] at h
    refine a_iload_n K (dq 4 rfl) rfl rfl ?_
    refine a_aload_n K (dq 5 rfl) rfl rfl ?_
    refine a_get K (T := 20) (i := 0) (k := 0) (v := .ref (ρ 21 0)) v_20 rfl rfl in_X7 (Nat.le_of_ble_eq_true rfl) fl_X7_7 rfl (dq 6 rfl) ?_
    refine a_iconst K (dq 7 rfl) (v := 0) rfl ?_
    refine a_ialdK K (T := 21) (i := 0) (nj := 0) v_21 rfl rfl (ib_in rfl) rfl (dq 8 rfl) ?_
    refine a_icmp_ge K (tgt := 37) (dq 9 rfl) rfl (fun c1 => ?_) (fun c1 => ?_)
    · have h := ite_t c1 h
      refine a_iload_n K (dq 23 rfl) rfl rfl ?_
      obtain rfl := Option.some.inj h
      exact a_iret K rfl rfl (dq 24 rfl) (Nat.le_of_ble_eq_true rfl) (Nat.le_of_ble_eq_true rfl) rfl rfl
    · have h := ite_f c1 h
      refine a_iload_n K (dq 10 rfl) rfl rfl ?_
      refine a_aload_n K (dq 11 rfl) rfl rfl ?_
      refine a_iload_n K (dq 12 rfl) rfl rfl ?_
      obtain ⟨r2, h2, h⟩ := bnd h
      refine a_callVi K (s_X7_parent S v3  σ r2 h2) v_20 rfl rfl cw_X7_parent ml_X7_69 (by decide) rfl (rest := [.int v2]) rfl (Nat.le_of_ble_eq_true rfl) (dq 13 rfl) (by decide) ?_
      refine a_iload_n K (dq 14 rfl) rfl rfl ?_
      refine a_icmp_ne K (tgt := 28) (dq 15 rfl) rfl (fun c3 => ?_) (fun c3 => ?_)
      · have h := ite_f c3 h
        refine a_iconst K (dq 18 rfl) (v := 0) rfl ?_
        refine a_iadd K (dq 19 rfl) ?_
        refine a_istore_n K (dq 20 rfl) rfl (Nat.le_of_ble_eq_true rfl) (ls' := [some (.ref (ρ 20 0)), some (.int v1), some (.int (v2 + 0)), some (.int v3)]) rfl ?_
        refine a_iinc K (dq 21 rfl) rfl (v := (v3 + 1)) rfl (Nat.le_of_ble_eq_true rfl) (ls' := [some (.ref (ρ 20 0)), some (.int v1), some (.int (v2 + 0)), some (.int (v3 + 1))]) rfl ?_
        refine a_goto K (tgt := 4) (dq 22 rfl) rfl ?_
        exact ih v1 (v2 + 0) (v3 + 1) r h K hX
      · have h := ite_t c3 h
        refine a_iconst K (dq 16 rfl) (v := 1) rfl ?_
        refine a_goto K (tgt := 29) (dq 17 rfl) rfl ?_
        refine a_iadd K (dq 19 rfl) ?_
        refine a_istore_n K (dq 20 rfl) rfl (Nat.le_of_ble_eq_true rfl) (ls' := [some (.ref (ρ 20 0)), some (.int v1), some (.int (v2 + 1)), some (.int v3)]) rfl ?_
        refine a_iinc K (dq 21 rfl) rfl (v := (v3 + 1)) rfl (Nat.le_of_ble_eq_true rfl) (ls' := [some (.ref (ρ 20 0)), some (.int v1), some (.int (v2 + 1)), some (.int (v3 + 1))]) rfl ?_
        refine a_goto K (tgt := 4) (dq 22 rfl) rfl ?_
        exact ih v1 (v2 + 1) (v3 + 1) r h K hX
set_option maxRecDepth 20000 in
set_option maxHeartbeats 1000000 in
theorem s_X7_children {l : Launch} {D : va_G} {ty : Nat → ClassId} {ρ : Nat → Nat → Nat} {N0 : Nat} (S : St l ty ρ N0) (a1 : Int32)  (σ : Sg) (r : Int32) (h : p_X7_children a1 σ = some r) : AMet l D ty ρ N0 yX7_children (Cond.code yX7_children cX7_children 4 (some .int) :: GW) (rmk 2 0 0) [.ref (ρ 20 0), .int a1] σ (oI r) σ := by
  refine am_enter S (by decide) rfl rfl (Nat.le_of_ble_eq_true rfl) ?_
  intro p e s m args below meth c K hX
  have dq := @tat _ _ dt_X7_children
  unfold p_X7_children at h
  show WA p l e _ s m args below meth c D ty ρ N0 4 _ 0 [some (.ref (ρ 20 0)), some (.int a1), none, none] [] σ 0 0
  refine a_iconst K (dq 0 rfl) (v := 0) rfl ?_
  refine a_istore_n K (dq 1 rfl) rfl (Nat.le_of_ble_eq_true rfl) (ls' := [some (.ref (ρ 20 0)), some (.int a1), some (.int 0), none]) rfl ?_
  refine a_iconst K (dq 2 rfl) (v := 0) rfl ?_
  refine a_istore_n K (dq 3 rfl) rfl (Nat.le_of_ble_eq_true rfl) (ls' := [some (.ref (ρ 20 0)), some (.int a1), some (.int 0), some (.int 0)]) rfl ?_
  exact s_X7_children_L4 S   σ 400 a1 0 0 r h K hX
def t_X7_behind : List (Nat × Instr × Nat) := [(0, .iconst 0, 1), (1, .istore_n 2, 1), (2, .iconst 0, 1), (3, .istore_n 3, 1), (4, .iload_n 3, 1), (5, .aload_n 0, 1), (6, .getfield 7, 3), (9, .iconst 0, 1), (10, .iaload, 1), (11, .if_icmp .ge 26, 3), (14, .iload_n 2, 1), (15, .aload_n 0, 1), (16, .iload_n 3, 1), (17, .iload_n 1, 1), (18, .invokevirtual 80, 3), (21, .ifCond .eq 7, 3), (24, .iconst 1, 1), (25, .goto 4, 3), (28, .iconst 0, 1), (29, .iadd, 1), (30, .istore_n 2, 1), (31, .iinc 3 1, 3), (34, .goto (-30), 3), (37, .iload_n 2, 1), (38, .ireturn, 1)]
theorem dt_X7_behind : tblOK cX7_behind t_X7_behind = true := by decide +kernel
def p_X7_behind_L4  (σ : Sg) : Nat → Int32 → Int32 → Int32 → Option Int32
  | 0, _, _, _ => none
  | n + 1, v1, v2, v3 => if (gA σ 21 0 0) ≤ v3 then (some v2) else ((p_X7_liesBehind v3 v1 σ).bind fun r2 => if r2 = 0 then (p_X7_behind_L4 σ n v1 (v2 + 0) (v3 + 1)) else (p_X7_behind_L4 σ n v1 (v2 + 1) (v3 + 1)))
def p_X7_behind (a1 : Int32) (σ : Sg) : Option Int32 :=
  p_X7_behind_L4 σ 400 a1 0 0
set_option maxRecDepth 20000 in
set_option maxHeartbeats 1000000 in
theorem s_X7_behind_L4 {l : Launch} {D : va_G} {ty : Nat → ClassId} {ρ : Nat → Nat → Nat} {N0 : Nat} (S : St l ty ρ N0)   (σ : Sg) : ∀ (n : Nat) (v1 : Int32) (v2 : Int32) (v3 : Int32) (r : Int32) (h : p_X7_behind_L4  σ n v1 v2 v3 = some r) {p : Program} {e : Env} {s : State} {m : MethodId} {args : Array Value} {below : List Frame} {meth : Method} {c : Code} (K : Cx p l s m args meth c cX7_behind 4 RX7 (some .int) D ty ρ N0) (hX : ∀ x ∈ c.exceptionTable.toList, False), WA p l e (rmk 3 0 0) s m args below meth c D ty ρ N0 4 (vx_MQ below (oQ D ty ρ N0 (oI r) σ) (oX D ty ρ N0 (oI r) σ) args s 0 0 (fun q => N0 ≤ q)) 4 [some (.ref (ρ 20 0)), some (.int v1), some (.int v2), some (.int v3)] [] σ 0 0 := by
  intro n
  induction n with
  | zero =>
    intro v1 v2 v3 r h
    simp only [p_X7_behind_L4] at h
    cases h
  | succ n ih =>
    intro v1 v2 v3 r h p e s m args below meth c K hX
    have dq := @tat _ _ dt_X7_behind
    rw [p_X7_behind_L4] at h
    refine a_iload_n K (dq 4 rfl) rfl rfl ?_
    refine a_aload_n K (dq 5 rfl) rfl rfl ?_
    refine a_get K (T := 20) (i := 0) (k := 0) (v := .ref (ρ 21 0)) v_20 rfl rfl in_X7 (Nat.le_of_ble_eq_true rfl) fl_X7_7 rfl (dq 6 rfl) ?_
    refine a_iconst K (dq 7 rfl) (v := 0) rfl ?_
    refine a_ialdK K (T := 21) (i := 0) (nj := 0) v_21 rfl rfl (ib_in rfl) rfl (dq 8 rfl) ?_
    refine a_icmp_ge K (tgt := 37) (dq 9 rfl) rfl (fun c1 => ?_) (fun c1 => ?_)
    · have h := ite_t c1 h
      refine a_iload_n K (dq 23 rfl) rfl rfl ?_
      obtain rfl := Option.some.inj h
      exact a_iret K rfl rfl (dq 24 rfl) (Nat.le_of_ble_eq_true rfl) (Nat.le_of_ble_eq_true rfl) rfl rfl
    · have h := ite_f c1 h
      refine a_iload_n K (dq 10 rfl) rfl rfl ?_
      refine a_aload_n K (dq 11 rfl) rfl rfl ?_
      refine a_iload_n K (dq 12 rfl) rfl rfl ?_
      refine a_iload_n K (dq 13 rfl) rfl rfl ?_
      obtain ⟨r2, h2, h⟩ := bnd h
      refine a_callVi K (s_X7_liesBehind S v3 v1  σ r2 h2) v_20 rfl rfl cw_X7_liesBehind ml_X7_80 (by decide) rfl (rest := [.int v2]) rfl (Nat.le_of_ble_eq_true rfl) (dq 14 rfl) (by decide) ?_
      refine a_if_eq K (tgt := 28) (dq 15 rfl) rfl (fun c3 => ?_) (fun c3 => ?_)
      · have h := ite_t c3 h
        refine a_iconst K (dq 18 rfl) (v := 0) rfl ?_
        refine a_iadd K (dq 19 rfl) ?_
        refine a_istore_n K (dq 20 rfl) rfl (Nat.le_of_ble_eq_true rfl) (ls' := [some (.ref (ρ 20 0)), some (.int v1), some (.int (v2 + 0)), some (.int v3)]) rfl ?_
        refine a_iinc K (dq 21 rfl) rfl (v := (v3 + 1)) rfl (Nat.le_of_ble_eq_true rfl) (ls' := [some (.ref (ρ 20 0)), some (.int v1), some (.int (v2 + 0)), some (.int (v3 + 1))]) rfl ?_
        refine a_goto K (tgt := 4) (dq 22 rfl) rfl ?_
        exact ih v1 (v2 + 0) (v3 + 1) r h K hX
      · have h := ite_f c3 h
        refine a_iconst K (dq 16 rfl) (v := 1) rfl ?_
        refine a_goto K (tgt := 29) (dq 17 rfl) rfl ?_
        refine a_iadd K (dq 19 rfl) ?_
        refine a_istore_n K (dq 20 rfl) rfl (Nat.le_of_ble_eq_true rfl) (ls' := [some (.ref (ρ 20 0)), some (.int v1), some (.int (v2 + 1)), some (.int v3)]) rfl ?_
        refine a_iinc K (dq 21 rfl) rfl (v := (v3 + 1)) rfl (Nat.le_of_ble_eq_true rfl) (ls' := [some (.ref (ρ 20 0)), some (.int v1), some (.int (v2 + 1)), some (.int (v3 + 1))]) rfl ?_
        refine a_goto K (tgt := 4) (dq 22 rfl) rfl ?_
        exact ih v1 (v2 + 1) (v3 + 1) r h K hX
set_option maxRecDepth 20000 in
set_option maxHeartbeats 1000000 in
theorem s_X7_behind {l : Launch} {D : va_G} {ty : Nat → ClassId} {ρ : Nat → Nat → Nat} {N0 : Nat} (S : St l ty ρ N0) (a1 : Int32)  (σ : Sg) (r : Int32) (h : p_X7_behind a1 σ = some r) : AMet l D ty ρ N0 yX7_behind (Cond.code yX7_behind cX7_behind 4 (some .int) :: GW) (rmk 3 0 0) [.ref (ρ 20 0), .int a1] σ (oI r) σ := by
  refine am_enter S (by decide) rfl rfl (Nat.le_of_ble_eq_true rfl) ?_
  intro p e s m args below meth c K hX
  have dq := @tat _ _ dt_X7_behind
  unfold p_X7_behind at h
  show WA p l e _ s m args below meth c D ty ρ N0 4 _ 0 [some (.ref (ρ 20 0)), some (.int a1), none, none] [] σ 0 0
  refine a_iconst K (dq 0 rfl) (v := 0) rfl ?_
  refine a_istore_n K (dq 1 rfl) rfl (Nat.le_of_ble_eq_true rfl) (ls' := [some (.ref (ρ 20 0)), some (.int a1), some (.int 0), none]) rfl ?_
  refine a_iconst K (dq 2 rfl) (v := 0) rfl ?_
  refine a_istore_n K (dq 3 rfl) rfl (Nat.le_of_ble_eq_true rfl) (ls' := [some (.ref (ρ 20 0)), some (.int a1), some (.int 0), some (.int 0)]) rfl ?_
  exact s_X7_behind_L4 S   σ 400 a1 0 0 r h K hX
def t_X7_wouldChange : List (Nat × Instr × Nat) := [(0, .aload_n 0, 1), (1, .aload_n 0, 1), (2, .iload_n 1, 1), (3, .invokevirtual 103, 3), (6, .ifCond .eq 7, 3), (9, .iconst 0, 1), (10, .goto 4, 3), (13, .iconst 1, 1), (14, .invokevirtual 146, 3), (17, .ifCond .eq 7, 3), (20, .iconst 0, 1), (21, .goto 9, 3), (24, .aload_n 0, 1), (25, .iload_n 1, 1), (26, .iconst 0, 1), (27, .invokevirtual 133, 3), (30, .ireturn, 1)]
theorem dt_X7_wouldChange : tblOK cX7_wouldChange t_X7_wouldChange = true := by decide +kernel
def p_X7_wouldChange (a1 : Int32) (σ : Sg) : Option (Int32 × Sg) :=
  (p_X7_isFarm a1 σ).bind fun r1 => if r1 = 0 then ((p_X7_fails 1 σ).bind fun r3 => if r3.1 = 0 then ((p_X7_exposes a1 0 r3.2).bind fun r5 => some (r5.1, r5.2)) else (some (0, r3.2))) else ((p_X7_fails 0 σ).bind fun r6 => if r6.1 = 0 then ((p_X7_exposes a1 0 r6.2).bind fun r8 => some (r8.1, r8.2)) else (some (0, r6.2)))
set_option maxRecDepth 20000 in
set_option maxHeartbeats 1000000 in
theorem s_X7_wouldChange {l : Launch} {D : va_G} {ty : Nat → ClassId} {ρ : Nat → Nat → Nat} {N0 : Nat} (S : St l ty ρ N0) (a1 : Int32)  (σ : Sg) (r : (Int32 × Sg)) (h : p_X7_wouldChange a1 σ = some r) : AMet l D ty ρ N0 yX7_wouldChange (Cond.code yX7_wouldChange cX7_wouldChange 2 (some .int) :: GW) (rmk 3 0 0) [.ref (ρ 20 0), .int a1] σ (oI r.1) r.2 := by
  refine am_enter S (by decide) rfl rfl (Nat.le_of_ble_eq_true rfl) ?_
  intro p e s m args below meth c K hX
  have dq := @tat _ _ dt_X7_wouldChange
  unfold p_X7_wouldChange at h
  show WA p l e _ s m args below meth c D ty ρ N0 2 _ 0 [some (.ref (ρ 20 0)), some (.int a1)] [] σ 0 0
  refine a_aload_n K (dq 0 rfl) rfl rfl ?_
  refine a_aload_n K (dq 1 rfl) rfl rfl ?_
  refine a_iload_n K (dq 2 rfl) rfl rfl ?_
  obtain ⟨r1, h1, h⟩ := bnd h
  refine a_callVi K (s_X7_isFarm S a1  σ r1 h1) v_20 rfl rfl cw_X7_isFarm ml_X7_103 (by decide) rfl (rest := [.ref (ρ 20 0)]) rfl (Nat.le_of_ble_eq_true rfl) (dq 3 rfl) (by decide) ?_
  refine a_if_eq K (tgt := 13) (dq 4 rfl) rfl (fun c2 => ?_) (fun c2 => ?_)
  · have h := ite_t c2 h
    refine a_iconst K (dq 7 rfl) (v := 1) rfl ?_
    obtain ⟨r3, h3, h⟩ := bnd h
    refine a_callVi K (s_X7_fails S 1  σ r3 h3) v_20 rfl rfl cw_X7_fails ml_X7_146 (by decide) rfl (rest := []) rfl (Nat.le_of_ble_eq_true rfl) (dq 8 rfl) (by decide) ?_
    refine a_if_eq K (tgt := 24) (dq 9 rfl) rfl (fun c4 => ?_) (fun c4 => ?_)
    · have h := ite_t c4 h
      refine a_aload_n K (dq 12 rfl) rfl rfl ?_
      refine a_iload_n K (dq 13 rfl) rfl rfl ?_
      refine a_iconst K (dq 14 rfl) (v := 0) rfl ?_
      obtain ⟨r5, h5, h⟩ := bnd h
      refine a_callVi K (s_X7_exposes S a1 0  r3.2 r5 h5) v_20 rfl rfl cw_X7_exposes ml_X7_133 (by decide) rfl (rest := []) rfl (Nat.le_of_ble_eq_true rfl) (dq 15 rfl) (by decide) ?_
      obtain rfl := Option.some.inj h
      exact a_iret K rfl rfl (dq 16 rfl) (Nat.le_of_ble_eq_true rfl) (Nat.le_of_ble_eq_true rfl) rfl rfl
    · have h := ite_f c4 h
      refine a_iconst K (dq 10 rfl) (v := 0) rfl ?_
      refine a_goto K (tgt := 30) (dq 11 rfl) rfl ?_
      obtain rfl := Option.some.inj h
      exact a_iret K rfl rfl (dq 16 rfl) (Nat.le_of_ble_eq_true rfl) (Nat.le_of_ble_eq_true rfl) rfl rfl
  · have h := ite_f c2 h
    refine a_iconst K (dq 5 rfl) (v := 0) rfl ?_
    refine a_goto K (tgt := 14) (dq 6 rfl) rfl ?_
    obtain ⟨r6, h6, h⟩ := bnd h
    refine a_callVi K (s_X7_fails S 0  σ r6 h6) v_20 rfl rfl cw_X7_fails ml_X7_146 (by decide) rfl (rest := []) rfl (Nat.le_of_ble_eq_true rfl) (dq 8 rfl) (by decide) ?_
    refine a_if_eq K (tgt := 24) (dq 9 rfl) rfl (fun c7 => ?_) (fun c7 => ?_)
    · have h := ite_t c7 h
      refine a_aload_n K (dq 12 rfl) rfl rfl ?_
      refine a_iload_n K (dq 13 rfl) rfl rfl ?_
      refine a_iconst K (dq 14 rfl) (v := 0) rfl ?_
      obtain ⟨r8, h8, h⟩ := bnd h
      refine a_callVi K (s_X7_exposes S a1 0  r6.2 r8 h8) v_20 rfl rfl cw_X7_exposes ml_X7_133 (by decide) rfl (rest := []) rfl (Nat.le_of_ble_eq_true rfl) (dq 15 rfl) (by decide) ?_
      obtain rfl := Option.some.inj h
      exact a_iret K rfl rfl (dq 16 rfl) (Nat.le_of_ble_eq_true rfl) (Nat.le_of_ble_eq_true rfl) rfl rfl
    · have h := ite_f c7 h
      refine a_iconst K (dq 10 rfl) (v := 0) rfl ?_
      refine a_goto K (tgt := 30) (dq 11 rfl) rfl ?_
      obtain rfl := Option.some.inj h
      exact a_iret K rfl rfl (dq 16 rfl) (Nat.le_of_ble_eq_true rfl) (Nat.le_of_ble_eq_true rfl) rfl rfl
def t_X7_trees : List (Nat × Instr × Nat) := [(0, .aload_n 0, 1), (1, .iconst 0, 1), (2, .putfield 39, 3), (5, .iconst 0, 1), (6, .istore_n 1, 1), (7, .iconst 0, 1), (8, .istore_n 2, 1), (9, .iload_n 2, 1), (10, .aload_n 0, 1), (11, .getfield 7, 3), (14, .iconst 0, 1), (15, .iaload, 1), (16, .if_icmp .ge 25, 3), (19, .iload_n 1, 1), (20, .aload_n 0, 1), (21, .iload_n 2, 1), (22, .invokevirtual 69, 3), (25, .ifCond .ge 7, 3), (28, .iconst 1, 1), (29, .goto 4, 3), (32, .iconst 0, 1), (33, .iadd, 1), (34, .istore_n 1, 1), (35, .iinc 2 1, 3), (38, .goto (-29), 3), (41, .iload_n 1, 1), (42, .ireturn, 1)]
theorem dt_X7_trees : tblOK cX7_trees t_X7_trees = true := by decide +kernel
def p_X7_trees_L9  : Nat → Int32 → Int32 → Sg → Option ((Int32 × Sg))
  | 0, _, _, _ => none
  | n + 1, v1, v2, σ => if (gA σ 21 0 0) ≤ v2 then (some (v1, σ)) else ((p_X7_parent v2 σ).bind fun r2 => if 0 ≤ r2 then (p_X7_trees_L9 n (v1 + 0) (v2 + 1) σ) else (p_X7_trees_L9 n (v1 + 1) (v2 + 1) σ))
def p_X7_trees  (σ : Sg) : Option (Int32 × Sg) :=
  p_X7_trees_L9 400 0 0 (sI σ 20 0 8 0)
set_option maxRecDepth 20000 in
set_option maxHeartbeats 1000000 in
theorem s_X7_trees_L9 {l : Launch} {D : va_G} {ty : Nat → ClassId} {ρ : Nat → Nat → Nat} {N0 : Nat} (S : St l ty ρ N0)   : ∀ (n : Nat) (v1 : Int32) (v2 : Int32) (σ : Sg) (r : (Int32 × Sg)) (h : p_X7_trees_L9  n v1 v2 σ = some r) {p : Program} {e : Env} {s : State} {m : MethodId} {args : Array Value} {below : List Frame} {meth : Method} {c : Code} (K : Cx p l s m args meth c cX7_trees 3 RX7 (some .int) D ty ρ N0) (hX : ∀ x ∈ c.exceptionTable.toList, False), WA p l e (rmk 2 0 0) s m args below meth c D ty ρ N0 3 (vx_MQ below (oQ D ty ρ N0 (oI r.1) r.2) (oX D ty ρ N0 (oI r.1) r.2) args s 0 0 (fun q => N0 ≤ q)) 9 [some (.ref (ρ 20 0)), some (.int v1), some (.int v2)] [] σ 0 0 := by
  intro n
  induction n with
  | zero =>
    intro v1 v2 σ r h
    simp only [p_X7_trees_L9] at h
    cases h
  | succ n ih =>
    intro v1 v2 σ r h p e s m args below meth c K hX
    have dq := @tat _ _ dt_X7_trees
    rw [p_X7_trees_L9] at h
    refine a_iload_n K (dq 7 rfl) rfl rfl ?_
    refine a_aload_n K (dq 8 rfl) rfl rfl ?_
    refine a_get K (T := 20) (i := 0) (k := 0) (v := .ref (ρ 21 0)) v_20 rfl rfl in_X7 (Nat.le_of_ble_eq_true rfl) fl_X7_7 rfl (dq 9 rfl) ?_
    refine a_iconst K (dq 10 rfl) (v := 0) rfl ?_
    refine a_ialdK K (T := 21) (i := 0) (nj := 0) v_21 rfl rfl (ib_in rfl) rfl (dq 11 rfl) ?_
    refine a_icmp_ge K (tgt := 41) (dq 12 rfl) rfl (fun c1 => ?_) (fun c1 => ?_)
    · have h := ite_t c1 h
      refine a_iload_n K (dq 25 rfl) rfl rfl ?_
      obtain rfl := Option.some.inj h
      exact a_iret K rfl rfl (dq 26 rfl) (Nat.le_of_ble_eq_true rfl) (Nat.le_of_ble_eq_true rfl) rfl rfl
    · have h := ite_f c1 h
      refine a_iload_n K (dq 13 rfl) rfl rfl ?_
      refine a_aload_n K (dq 14 rfl) rfl rfl ?_
      refine a_iload_n K (dq 15 rfl) rfl rfl ?_
      obtain ⟨r2, h2, h⟩ := bnd h
      refine a_callVi K (s_X7_parent S v2  σ r2 h2) v_20 rfl rfl cw_X7_parent ml_X7_69 (by decide) rfl (rest := [.int v1]) rfl (Nat.le_of_ble_eq_true rfl) (dq 16 rfl) (by decide) ?_
      refine a_if_ge K (tgt := 32) (dq 17 rfl) rfl (fun c3 => ?_) (fun c3 => ?_)
      · have h := ite_t c3 h
        refine a_iconst K (dq 20 rfl) (v := 0) rfl ?_
        refine a_iadd K (dq 21 rfl) ?_
        refine a_istore_n K (dq 22 rfl) rfl (Nat.le_of_ble_eq_true rfl) (ls' := [some (.ref (ρ 20 0)), some (.int (v1 + 0)), some (.int v2)]) rfl ?_
        refine a_iinc K (dq 23 rfl) rfl (v := (v2 + 1)) rfl (Nat.le_of_ble_eq_true rfl) (ls' := [some (.ref (ρ 20 0)), some (.int (v1 + 0)), some (.int (v2 + 1))]) rfl ?_
        refine a_goto K (tgt := 9) (dq 24 rfl) rfl ?_
        exact ih (v1 + 0) (v2 + 1) σ r h K hX
      · have h := ite_f c3 h
        refine a_iconst K (dq 18 rfl) (v := 1) rfl ?_
        refine a_goto K (tgt := 33) (dq 19 rfl) rfl ?_
        refine a_iadd K (dq 21 rfl) ?_
        refine a_istore_n K (dq 22 rfl) rfl (Nat.le_of_ble_eq_true rfl) (ls' := [some (.ref (ρ 20 0)), some (.int (v1 + 1)), some (.int v2)]) rfl ?_
        refine a_iinc K (dq 23 rfl) rfl (v := (v2 + 1)) rfl (Nat.le_of_ble_eq_true rfl) (ls' := [some (.ref (ρ 20 0)), some (.int (v1 + 1)), some (.int (v2 + 1))]) rfl ?_
        refine a_goto K (tgt := 9) (dq 24 rfl) rfl ?_
        exact ih (v1 + 1) (v2 + 1) σ r h K hX
set_option maxRecDepth 20000 in
set_option maxHeartbeats 1000000 in
theorem s_X7_trees {l : Launch} {D : va_G} {ty : Nat → ClassId} {ρ : Nat → Nat → Nat} {N0 : Nat} (S : St l ty ρ N0)   (σ : Sg) (r : (Int32 × Sg)) (h : p_X7_trees  σ = some r) : AMet l D ty ρ N0 yX7_trees (Cond.code yX7_trees cX7_trees 3 (some .int) :: GW) (rmk 2 0 0) [.ref (ρ 20 0)] σ (oI r.1) r.2 := by
  refine am_enter S (by decide) rfl rfl (Nat.le_of_ble_eq_true rfl) ?_
  intro p e s m args below meth c K hX
  have dq := @tat _ _ dt_X7_trees
  unfold p_X7_trees at h
  show WA p l e _ s m args below meth c D ty ρ N0 3 _ 0 [some (.ref (ρ 20 0)), none, none] [] σ 0 0
  refine a_aload_n K (dq 0 rfl) rfl rfl ?_
  refine a_iconst K (dq 1 rfl) (v := 0) rfl ?_
  refine a_put K (T := 20) (i := 0) (k := 8) v_20 rfl rfl in_X7 tyX7 tyX7_ok nmX7 (Nat.le_of_ble_eq_true rfl) fl_X7_39 rfl rfl (tyX7_ok 8 (by decide)) rfl rfl (dq 2 rfl) ?_
  refine a_iconst K (dq 3 rfl) (v := 0) rfl ?_
  refine a_istore_n K (dq 4 rfl) rfl (Nat.le_of_ble_eq_true rfl) (ls' := [some (.ref (ρ 20 0)), some (.int 0), none]) rfl ?_
  refine a_iconst K (dq 5 rfl) (v := 0) rfl ?_
  refine a_istore_n K (dq 6 rfl) rfl (Nat.le_of_ble_eq_true rfl) (ls' := [some (.ref (ρ 20 0)), some (.int 0), some (.int 0)]) rfl ?_
  exact s_X7_trees_L9 S    400 0 0 (sI σ 20 0 8 0) r h K hX
def t_X7_drover : List (Nat × Instr × Nat) := [(0, .aload_n 0, 1), (1, .iload_n 1, 1), (2, .iconst 0, 1), (3, .iconst 2, 1), (4, .invokestatic 65, 3), (7, .ifCond .eq 7, 3), (10, .iconst 0, 1), (11, .goto 4, 3), (14, .iconst 1, 1), (15, .invokevirtual 146, 3), (18, .ifCond .eq 7, 3), (21, .iconst 0, 1), (22, .goto 11, 3), (25, .aload_n 0, 1), (26, .getfield 7, 3), (29, .iconst 5, 1), (30, .iload_n 1, 1), (31, .iadd, 1), (32, .iaload, 1), (33, .ireturn, 1)]
theorem dt_X7_drover : tblOK cX7_drover t_X7_drover = true := by decide +kernel
def p_X7_drover (a1 : Int32) (σ : Sg) : Option (Int32 × Sg) :=
  (p_X7_in a1 0 2 σ).bind fun r1 => if r1 = 0 then ((p_X7_fails 1 σ).bind fun r3 => if r3.1 = 0 then (if ib (5 + a1) 44 then (some ((gA r3.2 21 0 (5 + a1).toNatClampNeg), r3.2)) else none) else (some (0, r3.2))) else ((p_X7_fails 0 σ).bind fun r6 => if r6.1 = 0 then (if ib (5 + a1) 44 then (some ((gA r6.2 21 0 (5 + a1).toNatClampNeg), r6.2)) else none) else (some (0, r6.2)))
set_option maxRecDepth 20000 in
set_option maxHeartbeats 1000000 in
theorem s_X7_drover {l : Launch} {D : va_G} {ty : Nat → ClassId} {ρ : Nat → Nat → Nat} {N0 : Nat} (S : St l ty ρ N0) (a1 : Int32)  (σ : Sg) (r : (Int32 × Sg)) (h : p_X7_drover a1 σ = some r) : AMet l D ty ρ N0 yX7_drover (Cond.code yX7_drover cX7_drover 2 (some .int) :: GW) (rmk 2 0 0) [.ref (ρ 20 0), .int a1] σ (oI r.1) r.2 := by
  refine am_enter S (by decide) rfl rfl (Nat.le_of_ble_eq_true rfl) ?_
  intro p e s m args below meth c K hX
  have dq := @tat _ _ dt_X7_drover
  unfold p_X7_drover at h
  show WA p l e _ s m args below meth c D ty ρ N0 2 _ 0 [some (.ref (ρ 20 0)), some (.int a1)] [] σ 0 0
  refine a_aload_n K (dq 0 rfl) rfl rfl ?_
  refine a_iload_n K (dq 1 rfl) rfl rfl ?_
  refine a_iconst K (dq 2 rfl) (v := 0) rfl ?_
  refine a_iconst K (dq 3 rfl) (v := 2) rfl ?_
  obtain ⟨r1, h1, h⟩ := bnd h
  refine a_callSi K (s_X7_in S a1 0 2  σ r1 h1) cw_X7_in ml_X7_65 (by decide) rfl (rest := [.ref (ρ 20 0)]) rfl (Nat.le_of_ble_eq_true rfl) (dq 4 rfl) (by decide) ?_
  refine a_if_eq K (tgt := 14) (dq 5 rfl) rfl (fun c2 => ?_) (fun c2 => ?_)
  · have h := ite_t c2 h
    refine a_iconst K (dq 8 rfl) (v := 1) rfl ?_
    obtain ⟨r3, h3, h⟩ := bnd h
    refine a_callVi K (s_X7_fails S 1  σ r3 h3) v_20 rfl rfl cw_X7_fails ml_X7_146 (by decide) rfl (rest := []) rfl (Nat.le_of_ble_eq_true rfl) (dq 9 rfl) (by decide) ?_
    refine a_if_eq K (tgt := 25) (dq 10 rfl) rfl (fun c4 => ?_) (fun c4 => ?_)
    · have h := ite_t c4 h
      refine a_aload_n K (dq 13 rfl) rfl rfl ?_
      refine a_get K (T := 20) (i := 0) (k := 0) (v := .ref (ρ 21 0)) v_20 rfl rfl in_X7 (Nat.le_of_ble_eq_true rfl) fl_X7_7 rfl (dq 14 rfl) ?_
      refine a_iconst K (dq 15 rfl) (v := 5) rfl ?_
      refine a_iload_n K (dq 16 rfl) rfl rfl ?_
      refine a_iadd K (dq 17 rfl) ?_
      obtain ⟨c5, h⟩ := ib_some h
      refine a_iald K (T := 21) (i := 0) v_21 rfl rfl c5 (dq 18 rfl) ?_
      obtain rfl := Option.some.inj h
      exact a_iret K rfl rfl (dq 19 rfl) (Nat.le_of_ble_eq_true rfl) (Nat.le_of_ble_eq_true rfl) rfl rfl
    · have h := ite_f c4 h
      refine a_iconst K (dq 11 rfl) (v := 0) rfl ?_
      refine a_goto K (tgt := 33) (dq 12 rfl) rfl ?_
      obtain rfl := Option.some.inj h
      exact a_iret K rfl rfl (dq 19 rfl) (Nat.le_of_ble_eq_true rfl) (Nat.le_of_ble_eq_true rfl) rfl rfl
  · have h := ite_f c2 h
    refine a_iconst K (dq 6 rfl) (v := 0) rfl ?_
    refine a_goto K (tgt := 15) (dq 7 rfl) rfl ?_
    obtain ⟨r6, h6, h⟩ := bnd h
    refine a_callVi K (s_X7_fails S 0  σ r6 h6) v_20 rfl rfl cw_X7_fails ml_X7_146 (by decide) rfl (rest := []) rfl (Nat.le_of_ble_eq_true rfl) (dq 9 rfl) (by decide) ?_
    refine a_if_eq K (tgt := 25) (dq 10 rfl) rfl (fun c7 => ?_) (fun c7 => ?_)
    · have h := ite_t c7 h
      refine a_aload_n K (dq 13 rfl) rfl rfl ?_
      refine a_get K (T := 20) (i := 0) (k := 0) (v := .ref (ρ 21 0)) v_20 rfl rfl in_X7 (Nat.le_of_ble_eq_true rfl) fl_X7_7 rfl (dq 14 rfl) ?_
      refine a_iconst K (dq 15 rfl) (v := 5) rfl ?_
      refine a_iload_n K (dq 16 rfl) rfl rfl ?_
      refine a_iadd K (dq 17 rfl) ?_
      obtain ⟨c8, h⟩ := ib_some h
      refine a_iald K (T := 21) (i := 0) v_21 rfl rfl c8 (dq 18 rfl) ?_
      obtain rfl := Option.some.inj h
      exact a_iret K rfl rfl (dq 19 rfl) (Nat.le_of_ble_eq_true rfl) (Nat.le_of_ble_eq_true rfl) rfl rfl
    · have h := ite_f c7 h
      refine a_iconst K (dq 11 rfl) (v := 0) rfl ?_
      refine a_goto K (tgt := 33) (dq 12 rfl) rfl ?_
      obtain rfl := Option.some.inj h
      exact a_iret K rfl rfl (dq 19 rfl) (Nat.le_of_ble_eq_true rfl) (Nat.le_of_ble_eq_true rfl) rfl rfl
def t_X7_isAhead : List (Nat × Instr × Nat) := [(0, .aload_n 0, 1), (1, .iload_n 1, 1), (2, .invokevirtual 152, 3), (5, .aload_n 0, 1), (6, .iload_n 2, 1), (7, .invokevirtual 152, 3), (10, .isub, 1), (11, .istore_n 3, 1), (12, .iload_n 3, 1), (13, .ifCond .eq 13, 3), (16, .iload_n 3, 1), (17, .ifCond .le 7, 3), (20, .iconst 1, 1), (21, .goto 4, 3), (24, .iconst 0, 1), (25, .ireturn, 1), (26, .aload_n 0, 1), (27, .iload_n 1, 1), (28, .invokevirtual 90, 3), (31, .aload_n 0, 1), (32, .iload_n 2, 1), (33, .invokevirtual 90, 3), (36, .if_icmp .lt 21, 3), (39, .aload_n 0, 1), (40, .iload_n 1, 1), (41, .invokevirtual 90, 3), (44, .aload_n 0, 1), (45, .iload_n 2, 1), (46, .invokevirtual 90, 3), (49, .if_icmp .ne 12, 3), (52, .iload_n 1, 1), (53, .iload_n 2, 1), (54, .if_icmp .ge 7, 3), (57, .iconst 1, 1), (58, .goto 4, 3), (61, .iconst 0, 1), (62, .ireturn, 1)]
theorem dt_X7_isAhead : tblOK cX7_isAhead t_X7_isAhead = true := by decide +kernel
def p_X7_isAhead (a1 : Int32) (a2 : Int32) (σ : Sg) : Option Int32 :=
  (p_X7_behind a1 σ).bind fun r1 => (p_X7_behind a2 σ).bind fun r2 => if (r1 - r2) = 0 then ((p_X7_depth a1 σ).bind fun r4 => (p_X7_depth a2 σ).bind fun r5 => if r4 < r5 then (some 1) else ((p_X7_depth a1 σ).bind fun r7 => (p_X7_depth a2 σ).bind fun r8 => if r7 = r8 then (if a2 ≤ a1 then (some 0) else (some 1)) else (some 0))) else (if (r1 - r2) ≤ 0 then (some 0) else (some 1))
set_option maxRecDepth 20000 in
set_option maxHeartbeats 1000000 in
theorem s_X7_isAhead {l : Launch} {D : va_G} {ty : Nat → ClassId} {ρ : Nat → Nat → Nat} {N0 : Nat} (S : St l ty ρ N0) (a1 : Int32) (a2 : Int32)  (σ : Sg) (r : Int32) (h : p_X7_isAhead a1 a2 σ = some r) : AMet l D ty ρ N0 yX7_isAhead (Cond.code yX7_isAhead cX7_isAhead 4 (some .boolean) :: GW) (rmk 4 0 0) [.ref (ρ 20 0), .int a1, .int a2] σ (oI r) σ := by
  refine am_enter S (by decide) rfl rfl (Nat.le_of_ble_eq_true rfl) ?_
  intro p e s m args below meth c K hX
  have dq := @tat _ _ dt_X7_isAhead
  unfold p_X7_isAhead at h
  show WA p l e _ s m args below meth c D ty ρ N0 4 _ 0 [some (.ref (ρ 20 0)), some (.int a1), some (.int a2), none] [] σ 0 0
  refine a_aload_n K (dq 0 rfl) rfl rfl ?_
  refine a_iload_n K (dq 1 rfl) rfl rfl ?_
  obtain ⟨r1, h1, h⟩ := bnd h
  refine a_callVi K (s_X7_behind S a1  σ r1 h1) v_20 rfl rfl cw_X7_behind ml_X7_152 (by decide) rfl (rest := []) rfl (Nat.le_of_ble_eq_true rfl) (dq 2 rfl) (by decide) ?_
  refine a_aload_n K (dq 3 rfl) rfl rfl ?_
  refine a_iload_n K (dq 4 rfl) rfl rfl ?_
  obtain ⟨r2, h2, h⟩ := bnd h
  refine a_callVi K (s_X7_behind S a2  σ r2 h2) v_20 rfl rfl cw_X7_behind ml_X7_152 (by decide) rfl (rest := [.int r1]) rfl (Nat.le_of_ble_eq_true rfl) (dq 5 rfl) (by decide) ?_
  refine a_isub K (dq 6 rfl) ?_
  refine a_istore_n K (dq 7 rfl) rfl (Nat.le_of_ble_eq_true rfl) (ls' := [some (.ref (ρ 20 0)), some (.int a1), some (.int a2), some (.int (r1 - r2))]) rfl ?_
  refine a_iload_n K (dq 8 rfl) rfl rfl ?_
  refine a_if_eq K (tgt := 26) (dq 9 rfl) rfl (fun c3 => ?_) (fun c3 => ?_)
  · have h := ite_t c3 h
    refine a_aload_n K (dq 16 rfl) rfl rfl ?_
    refine a_iload_n K (dq 17 rfl) rfl rfl ?_
    obtain ⟨r4, h4, h⟩ := bnd h
    refine a_callVi K (s_X7_depth S a1  σ r4 h4) v_20 rfl rfl cw_X7_depth ml_X7_90 (by decide) rfl (rest := []) rfl (Nat.le_of_ble_eq_true rfl) (dq 18 rfl) (by decide) ?_
    refine a_aload_n K (dq 19 rfl) rfl rfl ?_
    refine a_iload_n K (dq 20 rfl) rfl rfl ?_
    obtain ⟨r5, h5, h⟩ := bnd h
    refine a_callVi K (s_X7_depth S a2  σ r5 h5) v_20 rfl rfl cw_X7_depth ml_X7_90 (by decide) rfl (rest := [.int r4]) rfl (Nat.le_of_ble_eq_true rfl) (dq 21 rfl) (by decide) ?_
    refine a_icmp_lt K (tgt := 57) (dq 22 rfl) rfl (fun c6 => ?_) (fun c6 => ?_)
    · have h := ite_t c6 h
      refine a_iconst K (dq 33 rfl) (v := 1) rfl ?_
      refine a_goto K (tgt := 62) (dq 34 rfl) rfl ?_
      obtain rfl := Option.some.inj h
      exact a_iret K rfl rfl (dq 36 rfl) (Nat.le_of_ble_eq_true rfl) (Nat.le_of_ble_eq_true rfl) rfl rfl
    · have h := ite_f c6 h
      refine a_aload_n K (dq 23 rfl) rfl rfl ?_
      refine a_iload_n K (dq 24 rfl) rfl rfl ?_
      obtain ⟨r7, h7, h⟩ := bnd h
      refine a_callVi K (s_X7_depth S a1  σ r7 h7) v_20 rfl rfl cw_X7_depth ml_X7_90 (by decide) rfl (rest := []) rfl (Nat.le_of_ble_eq_true rfl) (dq 25 rfl) (by decide) ?_
      refine a_aload_n K (dq 26 rfl) rfl rfl ?_
      refine a_iload_n K (dq 27 rfl) rfl rfl ?_
      obtain ⟨r8, h8, h⟩ := bnd h
      refine a_callVi K (s_X7_depth S a2  σ r8 h8) v_20 rfl rfl cw_X7_depth ml_X7_90 (by decide) rfl (rest := [.int r7]) rfl (Nat.le_of_ble_eq_true rfl) (dq 28 rfl) (by decide) ?_
      refine a_icmp_ne K (tgt := 61) (dq 29 rfl) rfl (fun c9 => ?_) (fun c9 => ?_)
      · have h := ite_f c9 h
        refine a_iconst K (dq 35 rfl) (v := 0) rfl ?_
        obtain rfl := Option.some.inj h
        exact a_iret K rfl rfl (dq 36 rfl) (Nat.le_of_ble_eq_true rfl) (Nat.le_of_ble_eq_true rfl) rfl rfl
      · have h := ite_t c9 h
        refine a_iload_n K (dq 30 rfl) rfl rfl ?_
        refine a_iload_n K (dq 31 rfl) rfl rfl ?_
        refine a_icmp_ge K (tgt := 61) (dq 32 rfl) rfl (fun c10 => ?_) (fun c10 => ?_)
        · have h := ite_t c10 h
          refine a_iconst K (dq 35 rfl) (v := 0) rfl ?_
          obtain rfl := Option.some.inj h
          exact a_iret K rfl rfl (dq 36 rfl) (Nat.le_of_ble_eq_true rfl) (Nat.le_of_ble_eq_true rfl) rfl rfl
        · have h := ite_f c10 h
          refine a_iconst K (dq 33 rfl) (v := 1) rfl ?_
          refine a_goto K (tgt := 62) (dq 34 rfl) rfl ?_
          obtain rfl := Option.some.inj h
          exact a_iret K rfl rfl (dq 36 rfl) (Nat.le_of_ble_eq_true rfl) (Nat.le_of_ble_eq_true rfl) rfl rfl
  · have h := ite_f c3 h
    refine a_iload_n K (dq 10 rfl) rfl rfl ?_
    refine a_if_le K (tgt := 24) (dq 11 rfl) rfl (fun c11 => ?_) (fun c11 => ?_)
    · have h := ite_t c11 h
      refine a_iconst K (dq 14 rfl) (v := 0) rfl ?_
      obtain rfl := Option.some.inj h
      exact a_iret K rfl rfl (dq 15 rfl) (Nat.le_of_ble_eq_true rfl) (Nat.le_of_ble_eq_true rfl) rfl rfl
    · have h := ite_f c11 h
      refine a_iconst K (dq 12 rfl) (v := 1) rfl ?_
      refine a_goto K (tgt := 25) (dq 13 rfl) rfl ?_
      obtain rfl := Option.some.inj h
      exact a_iret K rfl rfl (dq 15 rfl) (Nat.le_of_ble_eq_true rfl) (Nat.le_of_ble_eq_true rfl) rfl rfl
def t_X7_append : List (Nat × Instr × Nat) := [(0, .aload_n 0, 1), (1, .aload_n 0, 1), (2, .getfield 170, 3), (5, .bipush 60, 2), (7, .if_icmp .ne 7, 3), (10, .iconst 1, 1), (11, .goto 4, 3), (14, .iconst 0, 1), (15, .invokevirtual 146, 3), (18, .ifCond .eq 5, 3), (21, .iconst 0, 1), (22, .ireturn, 1), (23, .aload_n 0, 1), (24, .getfield 22, 3), (27, .aload_n 0, 1), (28, .getfield 170, 3), (31, .iload_n 1, 1), (32, .iastore, 1), (33, .aload_n 0, 1), (34, .dup, 1), (35, .getfield 170, 3), (38, .iconst 1, 1), (39, .iadd, 1), (40, .putfield 170, 3), (43, .aload_n 0, 1), (44, .getfield 170, 3), (47, .ireturn, 1)]
theorem dt_X7_append : tblOK cX7_append t_X7_append = true := by decide +kernel
def p_X7_append (a1 : Int32) (σ : Sg) : Option (Int32 × Sg) :=
  if (gI σ 20 0 13) = 60 then ((p_X7_fails 1 σ).bind fun r5 => if r5.1 = 0 then (if ib (gI r5.2 20 0 13) 60 then (some ((gI (sI (sA r5.2 25 0 (gI r5.2 20 0 13).toNatClampNeg a1) 20 0 13 ((gI (sA r5.2 25 0 (gI r5.2 20 0 13).toNatClampNeg a1) 20 0 13) + 1)) 20 0 13), sI (sA r5.2 25 0 (gI r5.2 20 0 13).toNatClampNeg a1) 20 0 13 ((gI (sA r5.2 25 0 (gI r5.2 20 0 13).toNatClampNeg a1) 20 0 13) + 1))) else none) else (some (0, r5.2))) else ((p_X7_fails 0 σ).bind fun r2 => if r2.1 = 0 then (if ib (gI r2.2 20 0 13) 60 then (some ((gI (sI (sA r2.2 25 0 (gI r2.2 20 0 13).toNatClampNeg a1) 20 0 13 ((gI (sA r2.2 25 0 (gI r2.2 20 0 13).toNatClampNeg a1) 20 0 13) + 1)) 20 0 13), sI (sA r2.2 25 0 (gI r2.2 20 0 13).toNatClampNeg a1) 20 0 13 ((gI (sA r2.2 25 0 (gI r2.2 20 0 13).toNatClampNeg a1) 20 0 13) + 1))) else none) else (some (0, r2.2)))
set_option maxRecDepth 20000 in
set_option maxHeartbeats 1000000 in
theorem s_X7_append {l : Launch} {D : va_G} {ty : Nat → ClassId} {ρ : Nat → Nat → Nat} {N0 : Nat} (S : St l ty ρ N0) (a1 : Int32)  (σ : Sg) (r : (Int32 × Sg)) (h : p_X7_append a1 σ = some r) : AMet l D ty ρ N0 yX7_append (Cond.code yX7_append cX7_append 2 (some .int) :: GW) (rmk 2 0 0) [.ref (ρ 20 0), .int a1] σ (oI r.1) r.2 := by
  refine am_enter S (by decide) rfl rfl (Nat.le_of_ble_eq_true rfl) ?_
  intro p e s m args below meth c K hX
  have dq := @tat _ _ dt_X7_append
  unfold p_X7_append at h
  show WA p l e _ s m args below meth c D ty ρ N0 2 _ 0 [some (.ref (ρ 20 0)), some (.int a1)] [] σ 0 0
  refine a_aload_n K (dq 0 rfl) rfl rfl ?_
  refine a_aload_n K (dq 1 rfl) rfl rfl ?_
  refine a_get K (T := 20) (i := 0) (k := 13) (v := .int (gI σ 20 0 13)) v_20 rfl rfl in_X7 (Nat.le_of_ble_eq_true rfl) fl_X7_170 rfl (dq 2 rfl) ?_
  refine a_bipush K (dq 3 rfl) (v := 60) rfl ?_
  refine a_icmp_ne K (tgt := 14) (dq 4 rfl) rfl (fun c1 => ?_) (fun c1 => ?_)
  · have h := ite_f c1 h
    refine a_iconst K (dq 7 rfl) (v := 0) rfl ?_
    obtain ⟨r2, h2, h⟩ := bnd h
    refine a_callVi K (s_X7_fails S 0  σ r2 h2) v_20 rfl rfl cw_X7_fails ml_X7_146 (by decide) rfl (rest := []) rfl (Nat.le_of_ble_eq_true rfl) (dq 8 rfl) (by decide) ?_
    refine a_if_eq K (tgt := 23) (dq 9 rfl) rfl (fun c3 => ?_) (fun c3 => ?_)
    · have h := ite_t c3 h
      refine a_aload_n K (dq 12 rfl) rfl rfl ?_
      refine a_get K (T := 20) (i := 0) (k := 12) (v := .ref (ρ 25 0)) v_20 rfl rfl in_X7 (Nat.le_of_ble_eq_true rfl) fl_X7_22 rfl (dq 13 rfl) ?_
      refine a_aload_n K (dq 14 rfl) rfl rfl ?_
      refine a_get K (T := 20) (i := 0) (k := 13) (v := .int (gI r2.2 20 0 13)) v_20 rfl rfl in_X7 (Nat.le_of_ble_eq_true rfl) fl_X7_170 rfl (dq 15 rfl) ?_
      refine a_iload_n K (dq 16 rfl) rfl rfl ?_
      obtain ⟨c4, h⟩ := ib_some h
      refine a_iast K (T := 25) (i := 0) v_25 rfl rfl c4 (dq 17 rfl) ?_
      refine a_aload_n K (dq 18 rfl) rfl rfl ?_
      refine a_dup K (dq 19 rfl) rfl ?_
      refine a_get K (T := 20) (i := 0) (k := 13) (v := .int (gI (sA r2.2 25 0 (gI r2.2 20 0 13).toNatClampNeg a1) 20 0 13)) v_20 rfl rfl in_X7 (Nat.le_of_ble_eq_true rfl) fl_X7_170 rfl (dq 20 rfl) ?_
      refine a_iconst K (dq 21 rfl) (v := 1) rfl ?_
      refine a_iadd K (dq 22 rfl) ?_
      refine a_put K (T := 20) (i := 0) (k := 13) v_20 rfl rfl in_X7 tyX7 tyX7_ok nmX7 (Nat.le_of_ble_eq_true rfl) fl_X7_170 rfl rfl (tyX7_ok 13 (by decide)) rfl rfl (dq 23 rfl) ?_
      refine a_aload_n K (dq 24 rfl) rfl rfl ?_
      refine a_get K (T := 20) (i := 0) (k := 13) (v := .int (gI (sI (sA r2.2 25 0 (gI r2.2 20 0 13).toNatClampNeg a1) 20 0 13 ((gI (sA r2.2 25 0 (gI r2.2 20 0 13).toNatClampNeg a1) 20 0 13) + 1)) 20 0 13)) v_20 rfl rfl in_X7 (Nat.le_of_ble_eq_true rfl) fl_X7_170 rfl (dq 25 rfl) ?_
      obtain rfl := Option.some.inj h
      exact a_iret K rfl rfl (dq 26 rfl) (Nat.le_of_ble_eq_true rfl) (Nat.le_of_ble_eq_true rfl) rfl rfl
    · have h := ite_f c3 h
      refine a_iconst K (dq 10 rfl) (v := 0) rfl ?_
      obtain rfl := Option.some.inj h
      exact a_iret K rfl rfl (dq 11 rfl) (Nat.le_of_ble_eq_true rfl) (Nat.le_of_ble_eq_true rfl) rfl rfl
  · have h := ite_t c1 h
    refine a_iconst K (dq 5 rfl) (v := 1) rfl ?_
    refine a_goto K (tgt := 15) (dq 6 rfl) rfl ?_
    obtain ⟨r5, h5, h⟩ := bnd h
    refine a_callVi K (s_X7_fails S 1  σ r5 h5) v_20 rfl rfl cw_X7_fails ml_X7_146 (by decide) rfl (rest := []) rfl (Nat.le_of_ble_eq_true rfl) (dq 8 rfl) (by decide) ?_
    refine a_if_eq K (tgt := 23) (dq 9 rfl) rfl (fun c6 => ?_) (fun c6 => ?_)
    · have h := ite_t c6 h
      refine a_aload_n K (dq 12 rfl) rfl rfl ?_
      refine a_get K (T := 20) (i := 0) (k := 12) (v := .ref (ρ 25 0)) v_20 rfl rfl in_X7 (Nat.le_of_ble_eq_true rfl) fl_X7_22 rfl (dq 13 rfl) ?_
      refine a_aload_n K (dq 14 rfl) rfl rfl ?_
      refine a_get K (T := 20) (i := 0) (k := 13) (v := .int (gI r5.2 20 0 13)) v_20 rfl rfl in_X7 (Nat.le_of_ble_eq_true rfl) fl_X7_170 rfl (dq 15 rfl) ?_
      refine a_iload_n K (dq 16 rfl) rfl rfl ?_
      obtain ⟨c7, h⟩ := ib_some h
      refine a_iast K (T := 25) (i := 0) v_25 rfl rfl c7 (dq 17 rfl) ?_
      refine a_aload_n K (dq 18 rfl) rfl rfl ?_
      refine a_dup K (dq 19 rfl) rfl ?_
      refine a_get K (T := 20) (i := 0) (k := 13) (v := .int (gI (sA r5.2 25 0 (gI r5.2 20 0 13).toNatClampNeg a1) 20 0 13)) v_20 rfl rfl in_X7 (Nat.le_of_ble_eq_true rfl) fl_X7_170 rfl (dq 20 rfl) ?_
      refine a_iconst K (dq 21 rfl) (v := 1) rfl ?_
      refine a_iadd K (dq 22 rfl) ?_
      refine a_put K (T := 20) (i := 0) (k := 13) v_20 rfl rfl in_X7 tyX7 tyX7_ok nmX7 (Nat.le_of_ble_eq_true rfl) fl_X7_170 rfl rfl (tyX7_ok 13 (by decide)) rfl rfl (dq 23 rfl) ?_
      refine a_aload_n K (dq 24 rfl) rfl rfl ?_
      refine a_get K (T := 20) (i := 0) (k := 13) (v := .int (gI (sI (sA r5.2 25 0 (gI r5.2 20 0 13).toNatClampNeg a1) 20 0 13 ((gI (sA r5.2 25 0 (gI r5.2 20 0 13).toNatClampNeg a1) 20 0 13) + 1)) 20 0 13)) v_20 rfl rfl in_X7 (Nat.le_of_ble_eq_true rfl) fl_X7_170 rfl (dq 25 rfl) ?_
      obtain rfl := Option.some.inj h
      exact a_iret K rfl rfl (dq 26 rfl) (Nat.le_of_ble_eq_true rfl) (Nat.le_of_ble_eq_true rfl) rfl rfl
    · have h := ite_f c6 h
      refine a_iconst K (dq 10 rfl) (v := 0) rfl ?_
      obtain rfl := Option.some.inj h
      exact a_iret K rfl rfl (dq 11 rfl) (Nat.le_of_ble_eq_true rfl) (Nat.le_of_ble_eq_true rfl) rfl rfl
def t_X7_here : List (Nat × Instr × Nat) := [(0, .aload_n 0, 1), (1, .getfield 173, 3), (4, .aload_n 0, 1), (5, .getfield 170, 3), (8, .if_icmp .ge 15, 3), (11, .aload_n 0, 1), (12, .getfield 22, 3), (15, .aload_n 0, 1), (16, .getfield 173, 3), (19, .iaload, 1), (20, .goto 4, 3), (23, .iconst (-1), 1), (24, .ireturn, 1)]
theorem dt_X7_here : tblOK cX7_here t_X7_here = true := by decide +kernel
def p_X7_here  (σ : Sg) : Option Int32 :=
  if (gI σ 20 0 13) ≤ (gI σ 20 0 19) then (some (-1)) else (if ib (gI σ 20 0 19) 60 then (some (gA σ 25 0 (gI σ 20 0 19).toNatClampNeg)) else none)
set_option maxRecDepth 20000 in
set_option maxHeartbeats 1000000 in
theorem s_X7_here {l : Launch} {D : va_G} {ty : Nat → ClassId} {ρ : Nat → Nat → Nat} {N0 : Nat} (S : St l ty ρ N0)   (σ : Sg) (r : Int32) (h : p_X7_here  σ = some r) : AMet l D ty ρ N0 yX7_here (Cond.code yX7_here cX7_here 1 (some .int) :: GW) (rmk 1 0 0) [.ref (ρ 20 0)] σ (oI r) σ := by
  refine am_enter S (by decide) rfl rfl (Nat.le_of_ble_eq_true rfl) ?_
  intro p e s m args below meth c K hX
  have dq := @tat _ _ dt_X7_here
  unfold p_X7_here at h
  show WA p l e _ s m args below meth c D ty ρ N0 1 _ 0 [some (.ref (ρ 20 0))] [] σ 0 0
  refine a_aload_n K (dq 0 rfl) rfl rfl ?_
  refine a_get K (T := 20) (i := 0) (k := 19) (v := .int (gI σ 20 0 19)) v_20 rfl rfl in_X7 (Nat.le_of_ble_eq_true rfl) fl_X7_173 rfl (dq 1 rfl) ?_
  refine a_aload_n K (dq 2 rfl) rfl rfl ?_
  refine a_get K (T := 20) (i := 0) (k := 13) (v := .int (gI σ 20 0 13)) v_20 rfl rfl in_X7 (Nat.le_of_ble_eq_true rfl) fl_X7_170 rfl (dq 3 rfl) ?_
  refine a_icmp_ge K (tgt := 23) (dq 4 rfl) rfl (fun c1 => ?_) (fun c1 => ?_)
  · have h := ite_t c1 h
    refine a_iconst K (dq 11 rfl) (v := (-1)) rfl ?_
    obtain rfl := Option.some.inj h
    exact a_iret K rfl rfl (dq 12 rfl) (Nat.le_of_ble_eq_true rfl) (Nat.le_of_ble_eq_true rfl) rfl rfl
  · have h := ite_f c1 h
    refine a_aload_n K (dq 5 rfl) rfl rfl ?_
    refine a_get K (T := 20) (i := 0) (k := 12) (v := .ref (ρ 25 0)) v_20 rfl rfl in_X7 (Nat.le_of_ble_eq_true rfl) fl_X7_22 rfl (dq 6 rfl) ?_
    refine a_aload_n K (dq 7 rfl) rfl rfl ?_
    refine a_get K (T := 20) (i := 0) (k := 19) (v := .int (gI σ 20 0 19)) v_20 rfl rfl in_X7 (Nat.le_of_ble_eq_true rfl) fl_X7_173 rfl (dq 8 rfl) ?_
    obtain ⟨c2, h⟩ := ib_some h
    refine a_iald K (T := 25) (i := 0) v_25 rfl rfl c2 (dq 9 rfl) ?_
    refine a_goto K (tgt := 24) (dq 10 rfl) rfl ?_
    obtain rfl := Option.some.inj h
    exact a_iret K rfl rfl (dq 12 rfl) (Nat.le_of_ble_eq_true rfl) (Nat.le_of_ble_eq_true rfl) rfl rfl
def t_X7_skips : List (Nat × Instr × Nat) := [(0, .aload_n 0, 1), (1, .invokevirtual 176, 3), (4, .iload_n 1, 1), (5, .if_icmp .eq 5, 3), (8, .iconst 0, 1), (9, .ireturn, 1), (10, .aload_n 0, 1), (11, .dup, 1), (12, .getfield 173, 3), (15, .iconst 1, 1), (16, .iadd, 1), (17, .putfield 173, 3), (20, .iconst 1, 1), (21, .ireturn, 1)]
theorem dt_X7_skips : tblOK cX7_skips t_X7_skips = true := by decide +kernel
def p_X7_skips (a1 : Int32) (σ : Sg) : Option (Int32 × Sg) :=
  (p_X7_here  σ).bind fun r1 => if r1 = a1 then (some (1, sI σ 20 0 19 ((gI σ 20 0 19) + 1))) else (some (0, σ))
set_option maxRecDepth 20000 in
set_option maxHeartbeats 1000000 in
theorem s_X7_skips {l : Launch} {D : va_G} {ty : Nat → ClassId} {ρ : Nat → Nat → Nat} {N0 : Nat} (S : St l ty ρ N0) (a1 : Int32)  (σ : Sg) (r : (Int32 × Sg)) (h : p_X7_skips a1 σ = some r) : AMet l D ty ρ N0 yX7_skips (Cond.code yX7_skips cX7_skips 2 (some .boolean) :: GW) (rmk 2 0 0) [.ref (ρ 20 0), .int a1] σ (oI r.1) r.2 := by
  refine am_enter S (by decide) rfl rfl (Nat.le_of_ble_eq_true rfl) ?_
  intro p e s m args below meth c K hX
  have dq := @tat _ _ dt_X7_skips
  unfold p_X7_skips at h
  show WA p l e _ s m args below meth c D ty ρ N0 2 _ 0 [some (.ref (ρ 20 0)), some (.int a1)] [] σ 0 0
  refine a_aload_n K (dq 0 rfl) rfl rfl ?_
  obtain ⟨r1, h1, h⟩ := bnd h
  refine a_callVi K (s_X7_here S   σ r1 h1) v_20 rfl rfl cw_X7_here ml_X7_176 (by decide) rfl (rest := []) rfl (Nat.le_of_ble_eq_true rfl) (dq 1 rfl) (by decide) ?_
  refine a_iload_n K (dq 2 rfl) rfl rfl ?_
  refine a_icmp_eq K (tgt := 10) (dq 3 rfl) rfl (fun c2 => ?_) (fun c2 => ?_)
  · have h := ite_t c2 h
    refine a_aload_n K (dq 6 rfl) rfl rfl ?_
    refine a_dup K (dq 7 rfl) rfl ?_
    refine a_get K (T := 20) (i := 0) (k := 19) (v := .int (gI σ 20 0 19)) v_20 rfl rfl in_X7 (Nat.le_of_ble_eq_true rfl) fl_X7_173 rfl (dq 8 rfl) ?_
    refine a_iconst K (dq 9 rfl) (v := 1) rfl ?_
    refine a_iadd K (dq 10 rfl) ?_
    refine a_put K (T := 20) (i := 0) (k := 19) v_20 rfl rfl in_X7 tyX7 tyX7_ok nmX7 (Nat.le_of_ble_eq_true rfl) fl_X7_173 rfl rfl (tyX7_ok 19 (by decide)) rfl rfl (dq 11 rfl) ?_
    refine a_iconst K (dq 12 rfl) (v := 1) rfl ?_
    obtain rfl := Option.some.inj h
    exact a_iret K rfl rfl (dq 13 rfl) (Nat.le_of_ble_eq_true rfl) (Nat.le_of_ble_eq_true rfl) rfl rfl
  · have h := ite_f c2 h
    refine a_iconst K (dq 4 rfl) (v := 0) rfl ?_
    obtain rfl := Option.some.inj h
    exact a_iret K rfl rfl (dq 5 rfl) (Nat.le_of_ble_eq_true rfl) (Nat.le_of_ble_eq_true rfl) rfl rfl
def t_X7_figures : List (Nat × Instr × Nat) := [(0, .aload_n 0, 1), (1, .invokevirtual 176, 3), (4, .bipush 48, 2), (6, .bipush 57, 2), (8, .invokestatic 65, 3), (11, .ifCond .ne 5, 3), (14, .iconst 0, 1), (15, .ireturn, 1), (16, .aload_n 0, 1), (17, .getfield 36, 3), (20, .iload_n 1, 1), (21, .iconst 0, 1), (22, .iastore, 1), (23, .iconst 0, 1), (24, .istore_n 3, 1), (25, .iload_n 3, 1), (26, .iload_n 2, 1), (27, .if_icmp .ge 56, 3), (30, .aload_n 0, 1), (31, .invokevirtual 176, 3), (34, .bipush 48, 2), (36, .bipush 57, 2), (38, .invokestatic 65, 3), (41, .ifCond .eq 42, 3), (44, .aload_n 0, 1), (45, .getfield 36, 3), (48, .iload_n 1, 1), (49, .bipush 10, 2), (51, .aload_n 0, 1), (52, .getfield 36, 3), (55, .iload_n 1, 1), (56, .iaload, 1), (57, .imul, 1), (58, .aload_n 0, 1), (59, .invokevirtual 176, 3), (62, .iadd, 1), (63, .bipush 48, 2), (65, .isub, 1), (66, .iastore, 1), (67, .aload_n 0, 1), (68, .dup, 1), (69, .getfield 173, 3), (72, .iconst 1, 1), (73, .iadd, 1), (74, .putfield 173, 3), (77, .iinc 3 1, 3), (80, .goto (-55), 3), (83, .iconst 1, 1), (84, .ireturn, 1)]
theorem dt_X7_figures : tblOK cX7_figures t_X7_figures = true := by decide +kernel
def p_X7_figures_L25  : Nat → Int32 → Int32 → Int32 → Sg → Option ((Int32 × Sg))
  | 0, _, _, _, _ => none
  | n + 1, v1, v2, v3, σ => if v2 ≤ v3 then (some (1, σ)) else ((p_X7_here  σ).bind fun r6 => (p_X7_in r6 48 57 σ).bind fun r7 => if r7 = 0 then (some (1, σ)) else (if ib v1 124 then ((p_X7_here  σ).bind fun r10 => if ib v1 124 then (p_X7_figures_L25 n v1 v2 (v3 + 1) (sI (sA σ 28 0 v1.toNatClampNeg (((10 * (gA σ 28 0 v1.toNatClampNeg)) + r10) - 48)) 20 0 19 ((gI (sA σ 28 0 v1.toNatClampNeg (((10 * (gA σ 28 0 v1.toNatClampNeg)) + r10) - 48)) 20 0 19) + 1))) else none) else none))
def p_X7_figures (a1 : Int32) (a2 : Int32) (σ : Sg) : Option (Int32 × Sg) :=
  (p_X7_here  σ).bind fun r1 => (p_X7_in r1 48 57 σ).bind fun r2 => if r2 = 0 then (some (0, σ)) else (if ib a1 124 then (p_X7_figures_L25 400 a1 a2 0 (sA σ 28 0 a1.toNatClampNeg 0)) else none)
set_option maxRecDepth 20000 in
set_option maxHeartbeats 1000000 in
theorem s_X7_figures_L25 {l : Launch} {D : va_G} {ty : Nat → ClassId} {ρ : Nat → Nat → Nat} {N0 : Nat} (S : St l ty ρ N0)   : ∀ (n : Nat) (v1 : Int32) (v2 : Int32) (v3 : Int32) (σ : Sg) (r : (Int32 × Sg)) (h : p_X7_figures_L25  n v1 v2 v3 σ = some r) {p : Program} {e : Env} {s : State} {m : MethodId} {args : Array Value} {below : List Frame} {meth : Method} {c : Code} (K : Cx p l s m args meth c cX7_figures 4 RX7 (some .boolean) D ty ρ N0) (hX : ∀ x ∈ c.exceptionTable.toList, False), WA p l e (rmk 2 0 0) s m args below meth c D ty ρ N0 4 (vx_MQ below (oQ D ty ρ N0 (oI r.1) r.2) (oX D ty ρ N0 (oI r.1) r.2) args s 0 0 (fun q => N0 ≤ q)) 25 [some (.ref (ρ 20 0)), some (.int v1), some (.int v2), some (.int v3)] [] σ 0 0 := by
  intro n
  induction n with
  | zero =>
    intro v1 v2 v3 σ r h
    simp only [p_X7_figures_L25] at h
    cases h
  | succ n ih =>
    intro v1 v2 v3 σ r h p e s m args below meth c K hX
    have dq := @tat _ _ dt_X7_figures
    rw [p_X7_figures_L25] at h
    refine a_iload_n K (dq 15 rfl) rfl rfl ?_
    refine a_iload_n K (dq 16 rfl) rfl rfl ?_
    refine a_icmp_ge K (tgt := 83) (dq 17 rfl) rfl (fun c5 => ?_) (fun c5 => ?_)
    · have h := ite_t c5 h
      refine a_iconst K (dq 47 rfl) (v := 1) rfl ?_
      obtain rfl := Option.some.inj h
      exact a_iret K rfl rfl (dq 48 rfl) (Nat.le_of_ble_eq_true rfl) (Nat.le_of_ble_eq_true rfl) rfl rfl
    · have h := ite_f c5 h
      refine a_aload_n K (dq 18 rfl) rfl rfl ?_
      obtain ⟨r6, h6, h⟩ := bnd h
      refine a_callVi K (s_X7_here S   σ r6 h6) v_20 rfl rfl cw_X7_here ml_X7_176 (by decide) rfl (rest := []) rfl (Nat.le_of_ble_eq_true rfl) (dq 19 rfl) (by decide) ?_
      refine a_bipush K (dq 20 rfl) (v := 48) rfl ?_
      refine a_bipush K (dq 21 rfl) (v := 57) rfl ?_
      obtain ⟨r7, h7, h⟩ := bnd h
      refine a_callSi K (s_X7_in S r6 48 57  σ r7 h7) cw_X7_in ml_X7_65 (by decide) rfl (rest := []) rfl (Nat.le_of_ble_eq_true rfl) (dq 22 rfl) (by decide) ?_
      refine a_if_eq K (tgt := 83) (dq 23 rfl) rfl (fun c8 => ?_) (fun c8 => ?_)
      · have h := ite_t c8 h
        refine a_iconst K (dq 47 rfl) (v := 1) rfl ?_
        obtain rfl := Option.some.inj h
        exact a_iret K rfl rfl (dq 48 rfl) (Nat.le_of_ble_eq_true rfl) (Nat.le_of_ble_eq_true rfl) rfl rfl
      · have h := ite_f c8 h
        refine a_aload_n K (dq 24 rfl) rfl rfl ?_
        refine a_get K (T := 20) (i := 0) (k := 20) (v := .ref (ρ 28 0)) v_20 rfl rfl in_X7 (Nat.le_of_ble_eq_true rfl) fl_X7_36 rfl (dq 25 rfl) ?_
        refine a_iload_n K (dq 26 rfl) rfl rfl ?_
        refine a_bipush K (dq 27 rfl) (v := 10) rfl ?_
        refine a_aload_n K (dq 28 rfl) rfl rfl ?_
        refine a_get K (T := 20) (i := 0) (k := 20) (v := .ref (ρ 28 0)) v_20 rfl rfl in_X7 (Nat.le_of_ble_eq_true rfl) fl_X7_36 rfl (dq 29 rfl) ?_
        refine a_iload_n K (dq 30 rfl) rfl rfl ?_
        obtain ⟨c9, h⟩ := ib_some h
        refine a_iald K (T := 28) (i := 0) v_28 rfl rfl c9 (dq 31 rfl) ?_
        refine a_imul K (dq 32 rfl) ?_
        refine a_aload_n K (dq 33 rfl) rfl rfl ?_
        obtain ⟨r10, h10, h⟩ := bnd h
        refine a_callVi K (s_X7_here S   σ r10 h10) v_20 rfl rfl cw_X7_here ml_X7_176 (by decide) rfl (rest := [.int (10 * (gA σ 28 0 v1.toNatClampNeg)), .int v1, .ref (ρ 28 0)]) rfl (Nat.le_of_ble_eq_true rfl) (dq 34 rfl) (by decide) ?_
        refine a_iadd K (dq 35 rfl) ?_
        refine a_bipush K (dq 36 rfl) (v := 48) rfl ?_
        refine a_isub K (dq 37 rfl) ?_
        obtain ⟨c11, h⟩ := ib_some h
        refine a_iast K (T := 28) (i := 0) v_28 rfl rfl c11 (dq 38 rfl) ?_
        refine a_aload_n K (dq 39 rfl) rfl rfl ?_
        refine a_dup K (dq 40 rfl) rfl ?_
        refine a_get K (T := 20) (i := 0) (k := 19) (v := .int (gI (sA σ 28 0 v1.toNatClampNeg (((10 * (gA σ 28 0 v1.toNatClampNeg)) + r10) - 48)) 20 0 19)) v_20 rfl rfl in_X7 (Nat.le_of_ble_eq_true rfl) fl_X7_173 rfl (dq 41 rfl) ?_
        refine a_iconst K (dq 42 rfl) (v := 1) rfl ?_
        refine a_iadd K (dq 43 rfl) ?_
        refine a_put K (T := 20) (i := 0) (k := 19) v_20 rfl rfl in_X7 tyX7 tyX7_ok nmX7 (Nat.le_of_ble_eq_true rfl) fl_X7_173 rfl rfl (tyX7_ok 19 (by decide)) rfl rfl (dq 44 rfl) ?_
        refine a_iinc K (dq 45 rfl) rfl (v := (v3 + 1)) rfl (Nat.le_of_ble_eq_true rfl) (ls' := [some (.ref (ρ 20 0)), some (.int v1), some (.int v2), some (.int (v3 + 1))]) rfl ?_
        refine a_goto K (tgt := 25) (dq 46 rfl) rfl ?_
        exact ih v1 v2 (v3 + 1) (sI (sA σ 28 0 v1.toNatClampNeg (((10 * (gA σ 28 0 v1.toNatClampNeg)) + r10) - 48)) 20 0 19 ((gI (sA σ 28 0 v1.toNatClampNeg (((10 * (gA σ 28 0 v1.toNatClampNeg)) + r10) - 48)) 20 0 19) + 1)) r h K hX
set_option maxRecDepth 20000 in
set_option maxHeartbeats 1000000 in
theorem s_X7_figures {l : Launch} {D : va_G} {ty : Nat → ClassId} {ρ : Nat → Nat → Nat} {N0 : Nat} (S : St l ty ρ N0) (a1 : Int32) (a2 : Int32)  (σ : Sg) (r : (Int32 × Sg)) (h : p_X7_figures a1 a2 σ = some r) : AMet l D ty ρ N0 yX7_figures (Cond.code yX7_figures cX7_figures 4 (some .boolean) :: GW) (rmk 2 0 0) [.ref (ρ 20 0), .int a1, .int a2] σ (oI r.1) r.2 := by
  refine am_enter S (by decide) rfl rfl (Nat.le_of_ble_eq_true rfl) ?_
  intro p e s m args below meth c K hX
  have dq := @tat _ _ dt_X7_figures
  unfold p_X7_figures at h
  show WA p l e _ s m args below meth c D ty ρ N0 4 _ 0 [some (.ref (ρ 20 0)), some (.int a1), some (.int a2), none] [] σ 0 0
  refine a_aload_n K (dq 0 rfl) rfl rfl ?_
  obtain ⟨r1, h1, h⟩ := bnd h
  refine a_callVi K (s_X7_here S   σ r1 h1) v_20 rfl rfl cw_X7_here ml_X7_176 (by decide) rfl (rest := []) rfl (Nat.le_of_ble_eq_true rfl) (dq 1 rfl) (by decide) ?_
  refine a_bipush K (dq 2 rfl) (v := 48) rfl ?_
  refine a_bipush K (dq 3 rfl) (v := 57) rfl ?_
  obtain ⟨r2, h2, h⟩ := bnd h
  refine a_callSi K (s_X7_in S r1 48 57  σ r2 h2) cw_X7_in ml_X7_65 (by decide) rfl (rest := []) rfl (Nat.le_of_ble_eq_true rfl) (dq 4 rfl) (by decide) ?_
  refine a_if_ne K (tgt := 16) (dq 5 rfl) rfl (fun c3 => ?_) (fun c3 => ?_)
  · have h := ite_f c3 h
    refine a_aload_n K (dq 8 rfl) rfl rfl ?_
    refine a_get K (T := 20) (i := 0) (k := 20) (v := .ref (ρ 28 0)) v_20 rfl rfl in_X7 (Nat.le_of_ble_eq_true rfl) fl_X7_36 rfl (dq 9 rfl) ?_
    refine a_iload_n K (dq 10 rfl) rfl rfl ?_
    refine a_iconst K (dq 11 rfl) (v := 0) rfl ?_
    obtain ⟨c4, h⟩ := ib_some h
    refine a_iast K (T := 28) (i := 0) v_28 rfl rfl c4 (dq 12 rfl) ?_
    refine a_iconst K (dq 13 rfl) (v := 0) rfl ?_
    refine a_istore_n K (dq 14 rfl) rfl (Nat.le_of_ble_eq_true rfl) (ls' := [some (.ref (ρ 20 0)), some (.int a1), some (.int a2), some (.int 0)]) rfl ?_
    exact s_X7_figures_L25 S    400 a1 a2 0 (sA σ 28 0 a1.toNatClampNeg 0) r h K hX
  · have h := ite_t c3 h
    refine a_iconst K (dq 6 rfl) (v := 0) rfl ?_
    obtain rfl := Option.some.inj h
    exact a_iret K rfl rfl (dq 7 rfl) (Nat.le_of_ble_eq_true rfl) (Nat.le_of_ble_eq_true rfl) rfl rfl
def t_X7_twoHere : List (Nat × Instr × Nat) := [(0, .aload_n 0, 1), (1, .iload_n 1, 1), (2, .iconst 1, 1), (3, .iadd, 1), (4, .iconst 2, 1), (5, .invokevirtual 180, 3), (8, .ifCond .eq 27, 3), (11, .aload_n 0, 1), (12, .bipush 45, 2), (14, .invokevirtual 183, 3), (17, .ifCond .eq 18, 3), (20, .aload_n 0, 1), (21, .iload_n 1, 1), (22, .iconst 2, 1), (23, .iadd, 1), (24, .iconst 2, 1), (25, .invokevirtual 180, 3), (28, .ifCond .eq 7, 3), (31, .iconst 1, 1), (32, .goto 4, 3), (35, .iconst 0, 1), (36, .ireturn, 1)]
theorem dt_X7_twoHere : tblOK cX7_twoHere t_X7_twoHere = true := by decide +kernel
def p_X7_twoHere (a1 : Int32) (σ : Sg) : Option (Int32 × Sg) :=
  (p_X7_figures (a1 + 1) 2 σ).bind fun r1 => if r1.1 = 0 then (some (0, r1.2)) else ((p_X7_skips 45 r1.2).bind fun r3 => if r3.1 = 0 then (some (0, r3.2)) else ((p_X7_figures (a1 + 2) 2 r3.2).bind fun r5 => if r5.1 = 0 then (some (0, r5.2)) else (some (1, r5.2))))
set_option maxRecDepth 20000 in
set_option maxHeartbeats 1000000 in
theorem s_X7_twoHere {l : Launch} {D : va_G} {ty : Nat → ClassId} {ρ : Nat → Nat → Nat} {N0 : Nat} (S : St l ty ρ N0) (a1 : Int32)  (σ : Sg) (r : (Int32 × Sg)) (h : p_X7_twoHere a1 σ = some r) : AMet l D ty ρ N0 yX7_twoHere (Cond.code yX7_twoHere cX7_twoHere 2 (some .boolean) :: GW) (rmk 3 0 0) [.ref (ρ 20 0), .int a1] σ (oI r.1) r.2 := by
  refine am_enter S (by decide) rfl rfl (Nat.le_of_ble_eq_true rfl) ?_
  intro p e s m args below meth c K hX
  have dq := @tat _ _ dt_X7_twoHere
  unfold p_X7_twoHere at h
  show WA p l e _ s m args below meth c D ty ρ N0 2 _ 0 [some (.ref (ρ 20 0)), some (.int a1)] [] σ 0 0
  refine a_aload_n K (dq 0 rfl) rfl rfl ?_
  refine a_iload_n K (dq 1 rfl) rfl rfl ?_
  refine a_iconst K (dq 2 rfl) (v := 1) rfl ?_
  refine a_iadd K (dq 3 rfl) ?_
  refine a_iconst K (dq 4 rfl) (v := 2) rfl ?_
  obtain ⟨r1, h1, h⟩ := bnd h
  refine a_callVi K (s_X7_figures S (a1 + 1) 2  σ r1 h1) v_20 rfl rfl cw_X7_figures ml_X7_180 (by decide) rfl (rest := []) rfl (Nat.le_of_ble_eq_true rfl) (dq 5 rfl) (by decide) ?_
  refine a_if_eq K (tgt := 35) (dq 6 rfl) rfl (fun c2 => ?_) (fun c2 => ?_)
  · have h := ite_t c2 h
    refine a_iconst K (dq 20 rfl) (v := 0) rfl ?_
    obtain rfl := Option.some.inj h
    exact a_iret K rfl rfl (dq 21 rfl) (Nat.le_of_ble_eq_true rfl) (Nat.le_of_ble_eq_true rfl) rfl rfl
  · have h := ite_f c2 h
    refine a_aload_n K (dq 7 rfl) rfl rfl ?_
    refine a_bipush K (dq 8 rfl) (v := 45) rfl ?_
    obtain ⟨r3, h3, h⟩ := bnd h
    refine a_callVi K (s_X7_skips S 45  r1.2 r3 h3) v_20 rfl rfl cw_X7_skips ml_X7_183 (by decide) rfl (rest := []) rfl (Nat.le_of_ble_eq_true rfl) (dq 9 rfl) (by decide) ?_
    refine a_if_eq K (tgt := 35) (dq 10 rfl) rfl (fun c4 => ?_) (fun c4 => ?_)
    · have h := ite_t c4 h
      refine a_iconst K (dq 20 rfl) (v := 0) rfl ?_
      obtain rfl := Option.some.inj h
      exact a_iret K rfl rfl (dq 21 rfl) (Nat.le_of_ble_eq_true rfl) (Nat.le_of_ble_eq_true rfl) rfl rfl
    · have h := ite_f c4 h
      refine a_aload_n K (dq 11 rfl) rfl rfl ?_
      refine a_iload_n K (dq 12 rfl) rfl rfl ?_
      refine a_iconst K (dq 13 rfl) (v := 2) rfl ?_
      refine a_iadd K (dq 14 rfl) ?_
      refine a_iconst K (dq 15 rfl) (v := 2) rfl ?_
      obtain ⟨r5, h5, h⟩ := bnd h
      refine a_callVi K (s_X7_figures S (a1 + 2) 2  r3.2 r5 h5) v_20 rfl rfl cw_X7_figures ml_X7_180 (by decide) rfl (rest := []) rfl (Nat.le_of_ble_eq_true rfl) (dq 16 rfl) (by decide) ?_
      refine a_if_eq K (tgt := 35) (dq 17 rfl) rfl (fun c6 => ?_) (fun c6 => ?_)
      · have h := ite_t c6 h
        refine a_iconst K (dq 20 rfl) (v := 0) rfl ?_
        obtain rfl := Option.some.inj h
        exact a_iret K rfl rfl (dq 21 rfl) (Nat.le_of_ble_eq_true rfl) (Nat.le_of_ble_eq_true rfl) rfl rfl
      · have h := ite_f c6 h
        refine a_iconst K (dq 18 rfl) (v := 1) rfl ?_
        refine a_goto K (tgt := 36) (dq 19 rfl) rfl ?_
        obtain rfl := Option.some.inj h
        exact a_iret K rfl rfl (dq 21 rfl) (Nat.le_of_ble_eq_true rfl) (Nat.le_of_ble_eq_true rfl) rfl rfl
def t_X7_tollHere : List (Nat × Instr × Nat) := [(0, .aload_n 0, 1), (1, .iload_n 1, 1), (2, .invokevirtual 186, 3), (5, .ifCond .ne 5, 3), (8, .iconst 0, 1), (9, .ireturn, 1), (10, .aload_n 0, 1), (11, .invokevirtual 176, 3), (14, .bipush 42, 2), (16, .if_icmp .ne 7, 3), (19, .iconst 1, 1), (20, .goto 4, 3), (23, .iconst 0, 1), (24, .istore_n 2, 1), (25, .aload_n 0, 1), (26, .bipush 43, 2), (28, .invokevirtual 183, 3), (31, .ifCond .ne 14, 3), (34, .aload_n 0, 1), (35, .bipush 42, 2), (37, .invokevirtual 183, 3), (40, .ifCond .ne 5, 3), (43, .iconst 0, 1), (44, .ireturn, 1), (45, .aload_n 0, 1), (46, .iload_n 1, 1), (47, .iconst 3, 1), (48, .iadd, 1), (49, .iconst 2, 1), (50, .invokevirtual 180, 3), (53, .ifCond .ne 5, 3), (56, .iconst 0, 1), (57, .ireturn, 1), (58, .iload_n 2, 1), (59, .ifCond .eq 20, 3), (62, .aload_n 0, 1), (63, .getfield 36, 3), (66, .iload_n 1, 1), (67, .iconst 3, 1), (68, .iadd, 1), (69, .aload_n 0, 1), (70, .getfield 36, 3), (73, .iload_n 1, 1), (74, .iconst 3, 1), (75, .iadd, 1), (76, .iaload, 1), (77, .ineg, 1), (78, .iastore, 1), (79, .iconst 1, 1), (80, .ireturn, 1)]
theorem dt_X7_tollHere : tblOK cX7_tollHere t_X7_tollHere = true := by decide +kernel
def p_X7_tollHere (a1 : Int32) (σ : Sg) : Option (Int32 × Sg) :=
  (p_X7_twoHere a1 σ).bind fun r1 => if r1.1 = 0 then (some (0, r1.2)) else ((p_X7_here  r1.2).bind fun r3 => if r3 = 42 then ((p_X7_skips 43 r1.2).bind fun r15 => if r15.1 = 0 then ((p_X7_skips 42 r15.2).bind fun r22 => if r22.1 = 0 then (some (0, r22.2)) else ((p_X7_figures (a1 + 3) 2 r22.2).bind fun r24 => if r24.1 = 0 then (some (0, r24.2)) else (if ib (a1 + 3) 124 then (if ib (a1 + 3) 124 then (some (1, sA r24.2 28 0 (a1 + 3).toNatClampNeg (-(gA r24.2 28 0 (a1 + 3).toNatClampNeg)))) else none) else none))) else ((p_X7_figures (a1 + 3) 2 r15.2).bind fun r17 => if r17.1 = 0 then (some (0, r17.2)) else (if ib (a1 + 3) 124 then (if ib (a1 + 3) 124 then (some (1, sA r17.2 28 0 (a1 + 3).toNatClampNeg (-(gA r17.2 28 0 (a1 + 3).toNatClampNeg)))) else none) else none))) else ((p_X7_skips 43 r1.2).bind fun r5 => if r5.1 = 0 then ((p_X7_skips 42 r5.2).bind fun r10 => if r10.1 = 0 then (some (0, r10.2)) else ((p_X7_figures (a1 + 3) 2 r10.2).bind fun r12 => if r12.1 = 0 then (some (0, r12.2)) else (some (1, r12.2)))) else ((p_X7_figures (a1 + 3) 2 r5.2).bind fun r7 => if r7.1 = 0 then (some (0, r7.2)) else (some (1, r7.2)))))
set_option maxRecDepth 20000 in
set_option maxHeartbeats 1000000 in
theorem s_X7_tollHere {l : Launch} {D : va_G} {ty : Nat → ClassId} {ρ : Nat → Nat → Nat} {N0 : Nat} (S : St l ty ρ N0) (a1 : Int32)  (σ : Sg) (r : (Int32 × Sg)) (h : p_X7_tollHere a1 σ = some r) : AMet l D ty ρ N0 yX7_tollHere (Cond.code yX7_tollHere cX7_tollHere 3 (some .boolean) :: GW) (rmk 4 0 0) [.ref (ρ 20 0), .int a1] σ (oI r.1) r.2 := by
  refine am_enter S (by decide) rfl rfl (Nat.le_of_ble_eq_true rfl) ?_
  intro p e s m args below meth c K hX
  have dq := @tat _ _ dt_X7_tollHere
  unfold p_X7_tollHere at h
  show WA p l e _ s m args below meth c D ty ρ N0 3 _ 0 [some (.ref (ρ 20 0)), some (.int a1), none] [] σ 0 0
  refine a_aload_n K (dq 0 rfl) rfl rfl ?_
  refine a_iload_n K (dq 1 rfl) rfl rfl ?_
  obtain ⟨r1, h1, h⟩ := bnd h
  refine a_callVi K (s_X7_twoHere S a1  σ r1 h1) v_20 rfl rfl cw_X7_twoHere ml_X7_186 (by decide) rfl (rest := []) rfl (Nat.le_of_ble_eq_true rfl) (dq 2 rfl) (by decide) ?_
  refine a_if_ne K (tgt := 10) (dq 3 rfl) rfl (fun c2 => ?_) (fun c2 => ?_)
  · have h := ite_f c2 h
    refine a_aload_n K (dq 6 rfl) rfl rfl ?_
    obtain ⟨r3, h3, h⟩ := bnd h
    refine a_callVi K (s_X7_here S   r1.2 r3 h3) v_20 rfl rfl cw_X7_here ml_X7_176 (by decide) rfl (rest := []) rfl (Nat.le_of_ble_eq_true rfl) (dq 7 rfl) (by decide) ?_
    refine a_bipush K (dq 8 rfl) (v := 42) rfl ?_
    refine a_icmp_ne K (tgt := 23) (dq 9 rfl) rfl (fun c4 => ?_) (fun c4 => ?_)
    · have h := ite_f c4 h
      refine a_iconst K (dq 12 rfl) (v := 0) rfl ?_
      refine a_istore_n K (dq 13 rfl) rfl (Nat.le_of_ble_eq_true rfl) (ls' := [some (.ref (ρ 20 0)), some (.int a1), some (.int 0)]) rfl ?_
      refine a_aload_n K (dq 14 rfl) rfl rfl ?_
      refine a_bipush K (dq 15 rfl) (v := 43) rfl ?_
      obtain ⟨r5, h5, h⟩ := bnd h
      refine a_callVi K (s_X7_skips S 43  r1.2 r5 h5) v_20 rfl rfl cw_X7_skips ml_X7_183 (by decide) rfl (rest := []) rfl (Nat.le_of_ble_eq_true rfl) (dq 16 rfl) (by decide) ?_
      refine a_if_ne K (tgt := 45) (dq 17 rfl) rfl (fun c6 => ?_) (fun c6 => ?_)
      · have h := ite_f c6 h
        refine a_aload_n K (dq 24 rfl) rfl rfl ?_
        refine a_iload_n K (dq 25 rfl) rfl rfl ?_
        refine a_iconst K (dq 26 rfl) (v := 3) rfl ?_
        refine a_iadd K (dq 27 rfl) ?_
        refine a_iconst K (dq 28 rfl) (v := 2) rfl ?_
        obtain ⟨r7, h7, h⟩ := bnd h
        refine a_callVi K (s_X7_figures S (a1 + 3) 2  r5.2 r7 h7) v_20 rfl rfl cw_X7_figures ml_X7_180 (by decide) rfl (rest := []) rfl (Nat.le_of_ble_eq_true rfl) (dq 29 rfl) (by decide) ?_
        refine a_if_ne K (tgt := 58) (dq 30 rfl) rfl (fun c8 => ?_) (fun c8 => ?_)
        · have h := ite_f c8 h
          refine a_iload_n K (dq 33 rfl) rfl rfl ?_
          refine a_if_eq K (tgt := 79) (dq 34 rfl) rfl (fun c9 => ?_) (fun c9 => ?_)
          · refine a_iconst K (dq 48 rfl) (v := 1) rfl ?_
            obtain rfl := Option.some.inj h
            exact a_iret K rfl rfl (dq 49 rfl) (Nat.le_of_ble_eq_true rfl) (Nat.le_of_ble_eq_true rfl) rfl rfl
          · exact absurd c9 (by decide)
        · have h := ite_t c8 h
          refine a_iconst K (dq 31 rfl) (v := 0) rfl ?_
          obtain rfl := Option.some.inj h
          exact a_iret K rfl rfl (dq 32 rfl) (Nat.le_of_ble_eq_true rfl) (Nat.le_of_ble_eq_true rfl) rfl rfl
      · have h := ite_t c6 h
        refine a_aload_n K (dq 18 rfl) rfl rfl ?_
        refine a_bipush K (dq 19 rfl) (v := 42) rfl ?_
        obtain ⟨r10, h10, h⟩ := bnd h
        refine a_callVi K (s_X7_skips S 42  r5.2 r10 h10) v_20 rfl rfl cw_X7_skips ml_X7_183 (by decide) rfl (rest := []) rfl (Nat.le_of_ble_eq_true rfl) (dq 20 rfl) (by decide) ?_
        refine a_if_ne K (tgt := 45) (dq 21 rfl) rfl (fun c11 => ?_) (fun c11 => ?_)
        · have h := ite_f c11 h
          refine a_aload_n K (dq 24 rfl) rfl rfl ?_
          refine a_iload_n K (dq 25 rfl) rfl rfl ?_
          refine a_iconst K (dq 26 rfl) (v := 3) rfl ?_
          refine a_iadd K (dq 27 rfl) ?_
          refine a_iconst K (dq 28 rfl) (v := 2) rfl ?_
          obtain ⟨r12, h12, h⟩ := bnd h
          refine a_callVi K (s_X7_figures S (a1 + 3) 2  r10.2 r12 h12) v_20 rfl rfl cw_X7_figures ml_X7_180 (by decide) rfl (rest := []) rfl (Nat.le_of_ble_eq_true rfl) (dq 29 rfl) (by decide) ?_
          refine a_if_ne K (tgt := 58) (dq 30 rfl) rfl (fun c13 => ?_) (fun c13 => ?_)
          · have h := ite_f c13 h
            refine a_iload_n K (dq 33 rfl) rfl rfl ?_
            refine a_if_eq K (tgt := 79) (dq 34 rfl) rfl (fun c14 => ?_) (fun c14 => ?_)
            · refine a_iconst K (dq 48 rfl) (v := 1) rfl ?_
              obtain rfl := Option.some.inj h
              exact a_iret K rfl rfl (dq 49 rfl) (Nat.le_of_ble_eq_true rfl) (Nat.le_of_ble_eq_true rfl) rfl rfl
            · exact absurd c14 (by decide)
          · have h := ite_t c13 h
            refine a_iconst K (dq 31 rfl) (v := 0) rfl ?_
            obtain rfl := Option.some.inj h
            exact a_iret K rfl rfl (dq 32 rfl) (Nat.le_of_ble_eq_true rfl) (Nat.le_of_ble_eq_true rfl) rfl rfl
        · have h := ite_t c11 h
          refine a_iconst K (dq 22 rfl) (v := 0) rfl ?_
          obtain rfl := Option.some.inj h
          exact a_iret K rfl rfl (dq 23 rfl) (Nat.le_of_ble_eq_true rfl) (Nat.le_of_ble_eq_true rfl) rfl rfl
    · have h := ite_t c4 h
      refine a_iconst K (dq 10 rfl) (v := 1) rfl ?_
      refine a_goto K (tgt := 24) (dq 11 rfl) rfl ?_
      refine a_istore_n K (dq 13 rfl) rfl (Nat.le_of_ble_eq_true rfl) (ls' := [some (.ref (ρ 20 0)), some (.int a1), some (.int 1)]) rfl ?_
      refine a_aload_n K (dq 14 rfl) rfl rfl ?_
      refine a_bipush K (dq 15 rfl) (v := 43) rfl ?_
      obtain ⟨r15, h15, h⟩ := bnd h
      refine a_callVi K (s_X7_skips S 43  r1.2 r15 h15) v_20 rfl rfl cw_X7_skips ml_X7_183 (by decide) rfl (rest := []) rfl (Nat.le_of_ble_eq_true rfl) (dq 16 rfl) (by decide) ?_
      refine a_if_ne K (tgt := 45) (dq 17 rfl) rfl (fun c16 => ?_) (fun c16 => ?_)
      · have h := ite_f c16 h
        refine a_aload_n K (dq 24 rfl) rfl rfl ?_
        refine a_iload_n K (dq 25 rfl) rfl rfl ?_
        refine a_iconst K (dq 26 rfl) (v := 3) rfl ?_
        refine a_iadd K (dq 27 rfl) ?_
        refine a_iconst K (dq 28 rfl) (v := 2) rfl ?_
        obtain ⟨r17, h17, h⟩ := bnd h
        refine a_callVi K (s_X7_figures S (a1 + 3) 2  r15.2 r17 h17) v_20 rfl rfl cw_X7_figures ml_X7_180 (by decide) rfl (rest := []) rfl (Nat.le_of_ble_eq_true rfl) (dq 29 rfl) (by decide) ?_
        refine a_if_ne K (tgt := 58) (dq 30 rfl) rfl (fun c18 => ?_) (fun c18 => ?_)
        · have h := ite_f c18 h
          refine a_iload_n K (dq 33 rfl) rfl rfl ?_
          refine a_if_eq K (tgt := 79) (dq 34 rfl) rfl (fun c19 => ?_) (fun c19 => ?_)
          · exact absurd c19 (by decide)
          · refine a_aload_n K (dq 35 rfl) rfl rfl ?_
            refine a_get K (T := 20) (i := 0) (k := 20) (v := .ref (ρ 28 0)) v_20 rfl rfl in_X7 (Nat.le_of_ble_eq_true rfl) fl_X7_36 rfl (dq 36 rfl) ?_
            refine a_iload_n K (dq 37 rfl) rfl rfl ?_
            refine a_iconst K (dq 38 rfl) (v := 3) rfl ?_
            refine a_iadd K (dq 39 rfl) ?_
            refine a_aload_n K (dq 40 rfl) rfl rfl ?_
            refine a_get K (T := 20) (i := 0) (k := 20) (v := .ref (ρ 28 0)) v_20 rfl rfl in_X7 (Nat.le_of_ble_eq_true rfl) fl_X7_36 rfl (dq 41 rfl) ?_
            refine a_iload_n K (dq 42 rfl) rfl rfl ?_
            refine a_iconst K (dq 43 rfl) (v := 3) rfl ?_
            refine a_iadd K (dq 44 rfl) ?_
            obtain ⟨c20, h⟩ := ib_some h
            refine a_iald K (T := 28) (i := 0) v_28 rfl rfl c20 (dq 45 rfl) ?_
            refine a_ineg K (dq 46 rfl) ?_
            obtain ⟨c21, h⟩ := ib_some h
            refine a_iast K (T := 28) (i := 0) v_28 rfl rfl c21 (dq 47 rfl) ?_
            refine a_iconst K (dq 48 rfl) (v := 1) rfl ?_
            obtain rfl := Option.some.inj h
            exact a_iret K rfl rfl (dq 49 rfl) (Nat.le_of_ble_eq_true rfl) (Nat.le_of_ble_eq_true rfl) rfl rfl
        · have h := ite_t c18 h
          refine a_iconst K (dq 31 rfl) (v := 0) rfl ?_
          obtain rfl := Option.some.inj h
          exact a_iret K rfl rfl (dq 32 rfl) (Nat.le_of_ble_eq_true rfl) (Nat.le_of_ble_eq_true rfl) rfl rfl
      · have h := ite_t c16 h
        refine a_aload_n K (dq 18 rfl) rfl rfl ?_
        refine a_bipush K (dq 19 rfl) (v := 42) rfl ?_
        obtain ⟨r22, h22, h⟩ := bnd h
        refine a_callVi K (s_X7_skips S 42  r15.2 r22 h22) v_20 rfl rfl cw_X7_skips ml_X7_183 (by decide) rfl (rest := []) rfl (Nat.le_of_ble_eq_true rfl) (dq 20 rfl) (by decide) ?_
        refine a_if_ne K (tgt := 45) (dq 21 rfl) rfl (fun c23 => ?_) (fun c23 => ?_)
        · have h := ite_f c23 h
          refine a_aload_n K (dq 24 rfl) rfl rfl ?_
          refine a_iload_n K (dq 25 rfl) rfl rfl ?_
          refine a_iconst K (dq 26 rfl) (v := 3) rfl ?_
          refine a_iadd K (dq 27 rfl) ?_
          refine a_iconst K (dq 28 rfl) (v := 2) rfl ?_
          obtain ⟨r24, h24, h⟩ := bnd h
          refine a_callVi K (s_X7_figures S (a1 + 3) 2  r22.2 r24 h24) v_20 rfl rfl cw_X7_figures ml_X7_180 (by decide) rfl (rest := []) rfl (Nat.le_of_ble_eq_true rfl) (dq 29 rfl) (by decide) ?_
          refine a_if_ne K (tgt := 58) (dq 30 rfl) rfl (fun c25 => ?_) (fun c25 => ?_)
          · have h := ite_f c25 h
            refine a_iload_n K (dq 33 rfl) rfl rfl ?_
            refine a_if_eq K (tgt := 79) (dq 34 rfl) rfl (fun c26 => ?_) (fun c26 => ?_)
            · exact absurd c26 (by decide)
            · refine a_aload_n K (dq 35 rfl) rfl rfl ?_
              refine a_get K (T := 20) (i := 0) (k := 20) (v := .ref (ρ 28 0)) v_20 rfl rfl in_X7 (Nat.le_of_ble_eq_true rfl) fl_X7_36 rfl (dq 36 rfl) ?_
              refine a_iload_n K (dq 37 rfl) rfl rfl ?_
              refine a_iconst K (dq 38 rfl) (v := 3) rfl ?_
              refine a_iadd K (dq 39 rfl) ?_
              refine a_aload_n K (dq 40 rfl) rfl rfl ?_
              refine a_get K (T := 20) (i := 0) (k := 20) (v := .ref (ρ 28 0)) v_20 rfl rfl in_X7 (Nat.le_of_ble_eq_true rfl) fl_X7_36 rfl (dq 41 rfl) ?_
              refine a_iload_n K (dq 42 rfl) rfl rfl ?_
              refine a_iconst K (dq 43 rfl) (v := 3) rfl ?_
              refine a_iadd K (dq 44 rfl) ?_
              obtain ⟨c27, h⟩ := ib_some h
              refine a_iald K (T := 28) (i := 0) v_28 rfl rfl c27 (dq 45 rfl) ?_
              refine a_ineg K (dq 46 rfl) ?_
              obtain ⟨c28, h⟩ := ib_some h
              refine a_iast K (T := 28) (i := 0) v_28 rfl rfl c28 (dq 47 rfl) ?_
              refine a_iconst K (dq 48 rfl) (v := 1) rfl ?_
              obtain rfl := Option.some.inj h
              exact a_iret K rfl rfl (dq 49 rfl) (Nat.le_of_ble_eq_true rfl) (Nat.le_of_ble_eq_true rfl) rfl rfl
          · have h := ite_t c25 h
            refine a_iconst K (dq 31 rfl) (v := 0) rfl ?_
            obtain rfl := Option.some.inj h
            exact a_iret K rfl rfl (dq 32 rfl) (Nat.le_of_ble_eq_true rfl) (Nat.le_of_ble_eq_true rfl) rfl rfl
        · have h := ite_t c23 h
          refine a_iconst K (dq 22 rfl) (v := 0) rfl ?_
          obtain rfl := Option.some.inj h
          exact a_iret K rfl rfl (dq 23 rfl) (Nat.le_of_ble_eq_true rfl) (Nat.le_of_ble_eq_true rfl) rfl rfl
  · have h := ite_t c2 h
    refine a_iconst K (dq 4 rfl) (v := 0) rfl ?_
    obtain rfl := Option.some.inj h
    exact a_iret K rfl rfl (dq 5 rfl) (Nat.le_of_ble_eq_true rfl) (Nat.le_of_ble_eq_true rfl) rfl rfl
def t_X7_faultPosition : List (Nat × Instr × Nat) := [(0, .aload_n 0, 1), (1, .iconst 0, 1), (2, .putfield 39, 3), (5, .aload_n 0, 1), (6, .getfield 25, 3), (9, .ireturn, 1)]
theorem dt_X7_faultPosition : tblOK cX7_faultPosition t_X7_faultPosition = true := by decide +kernel
def p_X7_faultPosition  (σ : Sg) : Option (Int32 × Sg) :=
  some ((gI (sI σ 20 0 8 0) 20 0 14), sI σ 20 0 8 0)
set_option maxRecDepth 20000 in
set_option maxHeartbeats 1000000 in
theorem s_X7_faultPosition {l : Launch} {D : va_G} {ty : Nat → ClassId} {ρ : Nat → Nat → Nat} {N0 : Nat} (S : St l ty ρ N0)   (σ : Sg) (r : (Int32 × Sg)) (h : p_X7_faultPosition  σ = some r) : AMet l D ty ρ N0 yX7_faultPosition (Cond.code yX7_faultPosition cX7_faultPosition 1 (some .int) :: GW) (rmk 1 0 0) [.ref (ρ 20 0)] σ (oI r.1) r.2 := by
  refine am_enter S (by decide) rfl rfl (Nat.le_of_ble_eq_true rfl) ?_
  intro p e s m args below meth c K hX
  have dq := @tat _ _ dt_X7_faultPosition
  unfold p_X7_faultPosition at h
  show WA p l e _ s m args below meth c D ty ρ N0 1 _ 0 [some (.ref (ρ 20 0))] [] σ 0 0
  refine a_aload_n K (dq 0 rfl) rfl rfl ?_
  refine a_iconst K (dq 1 rfl) (v := 0) rfl ?_
  refine a_put K (T := 20) (i := 0) (k := 8) v_20 rfl rfl in_X7 tyX7 tyX7_ok nmX7 (Nat.le_of_ble_eq_true rfl) fl_X7_39 rfl rfl (tyX7_ok 8 (by decide)) rfl rfl (dq 2 rfl) ?_
  refine a_aload_n K (dq 3 rfl) rfl rfl ?_
  refine a_get K (T := 20) (i := 0) (k := 14) (v := .int (gI (sI σ 20 0 8 0) 20 0 14)) v_20 rfl rfl in_X7 (Nat.le_of_ble_eq_true rfl) fl_X7_25 rfl (dq 4 rfl) ?_
  obtain rfl := Option.some.inj h
  exact a_iret K rfl rfl (dq 5 rfl) (Nat.le_of_ble_eq_true rfl) (Nat.le_of_ble_eq_true rfl) rfl rfl
def t_X7_reason : List (Nat × Instr × Nat) := [(0, .aload_n 0, 1), (1, .iload_n 1, 1), (2, .iconst 0, 1), (3, .iconst 2, 1), (4, .invokestatic 65, 3), (7, .ifCond .ne 7, 3), (10, .iconst 1, 1), (11, .goto 15, 3), (14, .aload_n 0, 1), (15, .getfield 42, 3), (18, .ifCond .ne 7, 3), (21, .iconst 2, 1), (22, .goto 4, 3), (25, .iconst 0, 1), (26, .invokevirtual 146, 3), (29, .ifCond .eq 7, 3), (32, .iconst 0, 1), (33, .goto 30, 3), (36, .iload_n 1, 1), (37, .ifCond .ne 10, 3), (40, .aload_n 0, 1), (41, .getfield 42, 3), (44, .goto 19, 3), (47, .iload_n 1, 1), (48, .iconst 1, 1), (49, .if_icmp .ne 10, 3), (52, .aload_n 0, 1), (53, .getfield 45, 3), (56, .goto 7, 3), (59, .aload_n 0, 1), (60, .getfield 55, 3), (63, .ireturn, 1)]
theorem dt_X7_reason : tblOK cX7_reason t_X7_reason = true := by decide +kernel
def p_X7_reason (a1 : Int32) (σ : Sg) : Option (Int32 × Sg) :=
  (p_X7_in a1 0 2 σ).bind fun r1 => if r1 = 0 then ((p_X7_fails 1 σ).bind fun r12 => if r12.1 = 0 then (if a1 = 0 then (some ((gI r12.2 20 0 9), r12.2)) else (if a1 = 1 then (some ((gI r12.2 20 0 10), r12.2)) else (some ((gI r12.2 20 0 11), r12.2)))) else (some (0, r12.2))) else (if (gI σ 20 0 9) = 0 then ((p_X7_fails 2 σ).bind fun r8 => if r8.1 = 0 then (if a1 = 0 then (some ((gI r8.2 20 0 9), r8.2)) else (if a1 = 1 then (some ((gI r8.2 20 0 10), r8.2)) else (some ((gI r8.2 20 0 11), r8.2)))) else (some (0, r8.2))) else ((p_X7_fails 0 σ).bind fun r4 => if r4.1 = 0 then (if a1 = 0 then (some ((gI r4.2 20 0 9), r4.2)) else (if a1 = 1 then (some ((gI r4.2 20 0 10), r4.2)) else (some ((gI r4.2 20 0 11), r4.2)))) else (some (0, r4.2))))
set_option maxRecDepth 20000 in
set_option maxHeartbeats 1000000 in
theorem s_X7_reason {l : Launch} {D : va_G} {ty : Nat → ClassId} {ρ : Nat → Nat → Nat} {N0 : Nat} (S : St l ty ρ N0) (a1 : Int32)  (σ : Sg) (r : (Int32 × Sg)) (h : p_X7_reason a1 σ = some r) : AMet l D ty ρ N0 yX7_reason (Cond.code yX7_reason cX7_reason 2 (some .int) :: GW) (rmk 2 0 0) [.ref (ρ 20 0), .int a1] σ (oI r.1) r.2 := by
  refine am_enter S (by decide) rfl rfl (Nat.le_of_ble_eq_true rfl) ?_
  intro p e s m args below meth c K hX
  have dq := @tat _ _ dt_X7_reason
  unfold p_X7_reason at h
  show WA p l e _ s m args below meth c D ty ρ N0 2 _ 0 [some (.ref (ρ 20 0)), some (.int a1)] [] σ 0 0
  refine a_aload_n K (dq 0 rfl) rfl rfl ?_
  refine a_iload_n K (dq 1 rfl) rfl rfl ?_
  refine a_iconst K (dq 2 rfl) (v := 0) rfl ?_
  refine a_iconst K (dq 3 rfl) (v := 2) rfl ?_
  obtain ⟨r1, h1, h⟩ := bnd h
  refine a_callSi K (s_X7_in S a1 0 2  σ r1 h1) cw_X7_in ml_X7_65 (by decide) rfl (rest := [.ref (ρ 20 0)]) rfl (Nat.le_of_ble_eq_true rfl) (dq 4 rfl) (by decide) ?_
  refine a_if_ne K (tgt := 14) (dq 5 rfl) rfl (fun c2 => ?_) (fun c2 => ?_)
  · have h := ite_f c2 h
    refine a_aload_n K (dq 8 rfl) rfl rfl ?_
    refine a_get K (T := 20) (i := 0) (k := 9) (v := .int (gI σ 20 0 9)) v_20 rfl rfl in_X7 (Nat.le_of_ble_eq_true rfl) fl_X7_42 rfl (dq 9 rfl) ?_
    refine a_if_ne K (tgt := 25) (dq 10 rfl) rfl (fun c3 => ?_) (fun c3 => ?_)
    · have h := ite_f c3 h
      refine a_iconst K (dq 13 rfl) (v := 0) rfl ?_
      obtain ⟨r4, h4, h⟩ := bnd h
      refine a_callVi K (s_X7_fails S 0  σ r4 h4) v_20 rfl rfl cw_X7_fails ml_X7_146 (by decide) rfl (rest := []) rfl (Nat.le_of_ble_eq_true rfl) (dq 14 rfl) (by decide) ?_
      refine a_if_eq K (tgt := 36) (dq 15 rfl) rfl (fun c5 => ?_) (fun c5 => ?_)
      · have h := ite_t c5 h
        refine a_iload_n K (dq 18 rfl) rfl rfl ?_
        refine a_if_ne K (tgt := 47) (dq 19 rfl) rfl (fun c6 => ?_) (fun c6 => ?_)
        · have h := ite_f c6 h
          refine a_iload_n K (dq 23 rfl) rfl rfl ?_
          refine a_iconst K (dq 24 rfl) (v := 1) rfl ?_
          refine a_icmp_ne K (tgt := 59) (dq 25 rfl) rfl (fun c7 => ?_) (fun c7 => ?_)
          · have h := ite_f c7 h
            refine a_aload_n K (dq 29 rfl) rfl rfl ?_
            refine a_get K (T := 20) (i := 0) (k := 11) (v := .int (gI r4.2 20 0 11)) v_20 rfl rfl in_X7 (Nat.le_of_ble_eq_true rfl) fl_X7_55 rfl (dq 30 rfl) ?_
            obtain rfl := Option.some.inj h
            exact a_iret K rfl rfl (dq 31 rfl) (Nat.le_of_ble_eq_true rfl) (Nat.le_of_ble_eq_true rfl) rfl rfl
          · have h := ite_t c7 h
            refine a_aload_n K (dq 26 rfl) rfl rfl ?_
            refine a_get K (T := 20) (i := 0) (k := 10) (v := .int (gI r4.2 20 0 10)) v_20 rfl rfl in_X7 (Nat.le_of_ble_eq_true rfl) fl_X7_45 rfl (dq 27 rfl) ?_
            refine a_goto K (tgt := 63) (dq 28 rfl) rfl ?_
            obtain rfl := Option.some.inj h
            exact a_iret K rfl rfl (dq 31 rfl) (Nat.le_of_ble_eq_true rfl) (Nat.le_of_ble_eq_true rfl) rfl rfl
        · have h := ite_t c6 h
          refine a_aload_n K (dq 20 rfl) rfl rfl ?_
          refine a_get K (T := 20) (i := 0) (k := 9) (v := .int (gI r4.2 20 0 9)) v_20 rfl rfl in_X7 (Nat.le_of_ble_eq_true rfl) fl_X7_42 rfl (dq 21 rfl) ?_
          refine a_goto K (tgt := 63) (dq 22 rfl) rfl ?_
          obtain rfl := Option.some.inj h
          exact a_iret K rfl rfl (dq 31 rfl) (Nat.le_of_ble_eq_true rfl) (Nat.le_of_ble_eq_true rfl) rfl rfl
      · have h := ite_f c5 h
        refine a_iconst K (dq 16 rfl) (v := 0) rfl ?_
        refine a_goto K (tgt := 63) (dq 17 rfl) rfl ?_
        obtain rfl := Option.some.inj h
        exact a_iret K rfl rfl (dq 31 rfl) (Nat.le_of_ble_eq_true rfl) (Nat.le_of_ble_eq_true rfl) rfl rfl
    · have h := ite_t c3 h
      refine a_iconst K (dq 11 rfl) (v := 2) rfl ?_
      refine a_goto K (tgt := 26) (dq 12 rfl) rfl ?_
      obtain ⟨r8, h8, h⟩ := bnd h
      refine a_callVi K (s_X7_fails S 2  σ r8 h8) v_20 rfl rfl cw_X7_fails ml_X7_146 (by decide) rfl (rest := []) rfl (Nat.le_of_ble_eq_true rfl) (dq 14 rfl) (by decide) ?_
      refine a_if_eq K (tgt := 36) (dq 15 rfl) rfl (fun c9 => ?_) (fun c9 => ?_)
      · have h := ite_t c9 h
        refine a_iload_n K (dq 18 rfl) rfl rfl ?_
        refine a_if_ne K (tgt := 47) (dq 19 rfl) rfl (fun c10 => ?_) (fun c10 => ?_)
        · have h := ite_f c10 h
          refine a_iload_n K (dq 23 rfl) rfl rfl ?_
          refine a_iconst K (dq 24 rfl) (v := 1) rfl ?_
          refine a_icmp_ne K (tgt := 59) (dq 25 rfl) rfl (fun c11 => ?_) (fun c11 => ?_)
          · have h := ite_f c11 h
            refine a_aload_n K (dq 29 rfl) rfl rfl ?_
            refine a_get K (T := 20) (i := 0) (k := 11) (v := .int (gI r8.2 20 0 11)) v_20 rfl rfl in_X7 (Nat.le_of_ble_eq_true rfl) fl_X7_55 rfl (dq 30 rfl) ?_
            obtain rfl := Option.some.inj h
            exact a_iret K rfl rfl (dq 31 rfl) (Nat.le_of_ble_eq_true rfl) (Nat.le_of_ble_eq_true rfl) rfl rfl
          · have h := ite_t c11 h
            refine a_aload_n K (dq 26 rfl) rfl rfl ?_
            refine a_get K (T := 20) (i := 0) (k := 10) (v := .int (gI r8.2 20 0 10)) v_20 rfl rfl in_X7 (Nat.le_of_ble_eq_true rfl) fl_X7_45 rfl (dq 27 rfl) ?_
            refine a_goto K (tgt := 63) (dq 28 rfl) rfl ?_
            obtain rfl := Option.some.inj h
            exact a_iret K rfl rfl (dq 31 rfl) (Nat.le_of_ble_eq_true rfl) (Nat.le_of_ble_eq_true rfl) rfl rfl
        · have h := ite_t c10 h
          refine a_aload_n K (dq 20 rfl) rfl rfl ?_
          refine a_get K (T := 20) (i := 0) (k := 9) (v := .int (gI r8.2 20 0 9)) v_20 rfl rfl in_X7 (Nat.le_of_ble_eq_true rfl) fl_X7_42 rfl (dq 21 rfl) ?_
          refine a_goto K (tgt := 63) (dq 22 rfl) rfl ?_
          obtain rfl := Option.some.inj h
          exact a_iret K rfl rfl (dq 31 rfl) (Nat.le_of_ble_eq_true rfl) (Nat.le_of_ble_eq_true rfl) rfl rfl
      · have h := ite_f c9 h
        refine a_iconst K (dq 16 rfl) (v := 0) rfl ?_
        refine a_goto K (tgt := 63) (dq 17 rfl) rfl ?_
        obtain rfl := Option.some.inj h
        exact a_iret K rfl rfl (dq 31 rfl) (Nat.le_of_ble_eq_true rfl) (Nat.le_of_ble_eq_true rfl) rfl rfl
  · have h := ite_t c2 h
    refine a_iconst K (dq 6 rfl) (v := 1) rfl ?_
    refine a_goto K (tgt := 26) (dq 7 rfl) rfl ?_
    obtain ⟨r12, h12, h⟩ := bnd h
    refine a_callVi K (s_X7_fails S 1  σ r12 h12) v_20 rfl rfl cw_X7_fails ml_X7_146 (by decide) rfl (rest := []) rfl (Nat.le_of_ble_eq_true rfl) (dq 14 rfl) (by decide) ?_
    refine a_if_eq K (tgt := 36) (dq 15 rfl) rfl (fun c13 => ?_) (fun c13 => ?_)
    · have h := ite_t c13 h
      refine a_iload_n K (dq 18 rfl) rfl rfl ?_
      refine a_if_ne K (tgt := 47) (dq 19 rfl) rfl (fun c14 => ?_) (fun c14 => ?_)
      · have h := ite_f c14 h
        refine a_iload_n K (dq 23 rfl) rfl rfl ?_
        refine a_iconst K (dq 24 rfl) (v := 1) rfl ?_
        refine a_icmp_ne K (tgt := 59) (dq 25 rfl) rfl (fun c15 => ?_) (fun c15 => ?_)
        · have h := ite_f c15 h
          refine a_aload_n K (dq 29 rfl) rfl rfl ?_
          refine a_get K (T := 20) (i := 0) (k := 11) (v := .int (gI r12.2 20 0 11)) v_20 rfl rfl in_X7 (Nat.le_of_ble_eq_true rfl) fl_X7_55 rfl (dq 30 rfl) ?_
          obtain rfl := Option.some.inj h
          exact a_iret K rfl rfl (dq 31 rfl) (Nat.le_of_ble_eq_true rfl) (Nat.le_of_ble_eq_true rfl) rfl rfl
        · have h := ite_t c15 h
          refine a_aload_n K (dq 26 rfl) rfl rfl ?_
          refine a_get K (T := 20) (i := 0) (k := 10) (v := .int (gI r12.2 20 0 10)) v_20 rfl rfl in_X7 (Nat.le_of_ble_eq_true rfl) fl_X7_45 rfl (dq 27 rfl) ?_
          refine a_goto K (tgt := 63) (dq 28 rfl) rfl ?_
          obtain rfl := Option.some.inj h
          exact a_iret K rfl rfl (dq 31 rfl) (Nat.le_of_ble_eq_true rfl) (Nat.le_of_ble_eq_true rfl) rfl rfl
      · have h := ite_t c14 h
        refine a_aload_n K (dq 20 rfl) rfl rfl ?_
        refine a_get K (T := 20) (i := 0) (k := 9) (v := .int (gI r12.2 20 0 9)) v_20 rfl rfl in_X7 (Nat.le_of_ble_eq_true rfl) fl_X7_42 rfl (dq 21 rfl) ?_
        refine a_goto K (tgt := 63) (dq 22 rfl) rfl ?_
        obtain rfl := Option.some.inj h
        exact a_iret K rfl rfl (dq 31 rfl) (Nat.le_of_ble_eq_true rfl) (Nat.le_of_ble_eq_true rfl) rfl rfl
    · have h := ite_f c13 h
      refine a_iconst K (dq 16 rfl) (v := 0) rfl ?_
      refine a_goto K (tgt := 63) (dq 17 rfl) rfl ?_
      obtain rfl := Option.some.inj h
      exact a_iret K rfl rfl (dq 31 rfl) (Nat.le_of_ble_eq_true rfl) (Nat.le_of_ble_eq_true rfl) rfl rfl
def t_X7_writes : List (Nat × Instr × Nat) := [(0, .aload_n 0, 1), (1, .getfield 29, 3), (4, .aload_n 0, 1), (5, .getfield 227, 3), (8, .iload_n 1, 1), (9, .i2c, 1), (10, .castore, 1), (11, .aload_n 0, 1), (12, .dup, 1), (13, .getfield 227, 3), (16, .iconst 1, 1), (17, .iadd, 1), (18, .putfield 227, 3), (21, .return_, 1)]
theorem dt_X7_writes : tblOK cX7_writes t_X7_writes = true := by decide +kernel
def p_X7_writes (a1 : Int32) (σ : Sg) : Option Sg :=
  if ib (gI σ 20 0 16) 120 then (some (sI (sA σ 26 0 (gI σ 20 0 16).toNatClampNeg (nch ((a1.toUInt32 % 65536).toInt32))) 20 0 16 ((gI (sA σ 26 0 (gI σ 20 0 16).toNatClampNeg (nch ((a1.toUInt32 % 65536).toInt32))) 20 0 16) + 1))) else none
set_option maxRecDepth 20000 in
set_option maxHeartbeats 1000000 in
theorem s_X7_writes {l : Launch} {D : va_G} {ty : Nat → ClassId} {ρ : Nat → Nat → Nat} {N0 : Nat} (S : St l ty ρ N0) (a1 : Int32)  (σ : Sg) (r : Sg) (h : p_X7_writes a1 σ = some r) : AMet l D ty ρ N0 yX7_writes (Cond.code yX7_writes cX7_writes 2 none :: GW) (rmk 1 0 0) [.ref (ρ 20 0), .int a1] σ (.inl none) r := by
  refine am_enter S (by decide) rfl rfl (Nat.le_of_ble_eq_true rfl) ?_
  intro p e s m args below meth c K hX
  have dq := @tat _ _ dt_X7_writes
  unfold p_X7_writes at h
  show WA p l e _ s m args below meth c D ty ρ N0 2 _ 0 [some (.ref (ρ 20 0)), some (.int a1)] [] σ 0 0
  refine a_aload_n K (dq 0 rfl) rfl rfl ?_
  refine a_get K (T := 20) (i := 0) (k := 15) (v := .ref (ρ 26 0)) v_20 rfl rfl in_X7 (Nat.le_of_ble_eq_true rfl) fl_X7_29 rfl (dq 1 rfl) ?_
  refine a_aload_n K (dq 2 rfl) rfl rfl ?_
  refine a_get K (T := 20) (i := 0) (k := 16) (v := .int (gI σ 20 0 16)) v_20 rfl rfl in_X7 (Nat.le_of_ble_eq_true rfl) fl_X7_227 rfl (dq 3 rfl) ?_
  refine a_iload_n K (dq 4 rfl) rfl rfl ?_
  refine a_i2c K (dq 5 rfl) ?_
  obtain ⟨c1, h⟩ := ib_some h
  refine a_cast K (T := 26) (i := 0) v_26 rfl rfl c1 (dq 6 rfl) ?_
  refine a_aload_n K (dq 7 rfl) rfl rfl ?_
  refine a_dup K (dq 8 rfl) rfl ?_
  refine a_get K (T := 20) (i := 0) (k := 16) (v := .int (gI (sA σ 26 0 (gI σ 20 0 16).toNatClampNeg (nch ((a1.toUInt32 % 65536).toInt32))) 20 0 16)) v_20 rfl rfl in_X7 (Nat.le_of_ble_eq_true rfl) fl_X7_227 rfl (dq 9 rfl) ?_
  refine a_iconst K (dq 10 rfl) (v := 1) rfl ?_
  refine a_iadd K (dq 11 rfl) ?_
  refine a_put K (T := 20) (i := 0) (k := 16) v_20 rfl rfl in_X7 tyX7 tyX7_ok nmX7 (Nat.le_of_ble_eq_true rfl) fl_X7_227 rfl rfl (tyX7_ok 16 (by decide)) rfl rfl (dq 12 rfl) ?_
  obtain rfl := Option.some.inj h
  exact a_vret K rfl (dq 13 rfl) (Nat.le_of_ble_eq_true rfl) (Nat.le_of_ble_eq_true rfl) rfl rfl
def t_X7_writesNumber : List (Nat × Instr × Nat) := [(0, .iload_n 1, 1), (1, .bipush 99, 2), (3, .if_icmp .le 14, 3), (6, .aload_n 0, 1), (7, .bipush 48, 2), (9, .iload_n 1, 1), (10, .bipush 100, 2), (12, .idiv, 1), (13, .iadd, 1), (14, .invokevirtual 230, 3), (17, .iload_n 1, 1), (18, .bipush 9, 2), (20, .if_icmp .le 17, 3), (23, .aload_n 0, 1), (24, .bipush 48, 2), (26, .iload_n 1, 1), (27, .bipush 10, 2), (29, .idiv, 1), (30, .bipush 10, 2), (32, .irem, 1), (33, .iadd, 1), (34, .invokevirtual 230, 3), (37, .aload_n 0, 1), (38, .bipush 48, 2), (40, .iload_n 1, 1), (41, .bipush 10, 2), (43, .irem, 1), (44, .iadd, 1), (45, .invokevirtual 230, 3), (48, .return_, 1)]
theorem dt_X7_writesNumber : tblOK cX7_writesNumber t_X7_writesNumber = true := by decide +kernel
def p_X7_writesNumber (a1 : Int32) (σ : Sg) : Option Sg :=
  if a1 ≤ 99 then (if a1 ≤ 9 then ((p_X7_writes (48 + (a1 - a1 / 10 * 10)) σ).bind fun r3 => some r3) else ((p_X7_writes (48 + ((a1 / 10) - (a1 / 10) / 10 * 10)) σ).bind fun r4 => (p_X7_writes (48 + (a1 - a1 / 10 * 10)) r4).bind fun r5 => some r5)) else ((p_X7_writes (48 + (a1 / 100)) σ).bind fun r6 => if a1 ≤ 9 then ((p_X7_writes (48 + (a1 - a1 / 10 * 10)) r6).bind fun r8 => some r8) else ((p_X7_writes (48 + ((a1 / 10) - (a1 / 10) / 10 * 10)) r6).bind fun r9 => (p_X7_writes (48 + (a1 - a1 / 10 * 10)) r9).bind fun r10 => some r10))
set_option maxRecDepth 20000 in
set_option maxHeartbeats 1000000 in
theorem s_X7_writesNumber {l : Launch} {D : va_G} {ty : Nat → ClassId} {ρ : Nat → Nat → Nat} {N0 : Nat} (S : St l ty ρ N0) (a1 : Int32)  (σ : Sg) (r : Sg) (h : p_X7_writesNumber a1 σ = some r) : AMet l D ty ρ N0 yX7_writesNumber (Cond.code yX7_writesNumber cX7_writesNumber 2 none :: GW) (rmk 2 0 0) [.ref (ρ 20 0), .int a1] σ (.inl none) r := by
  refine am_enter S (by decide) rfl rfl (Nat.le_of_ble_eq_true rfl) ?_
  intro p e s m args below meth c K hX
  have dq := @tat _ _ dt_X7_writesNumber
  unfold p_X7_writesNumber at h
  show WA p l e _ s m args below meth c D ty ρ N0 2 _ 0 [some (.ref (ρ 20 0)), some (.int a1)] [] σ 0 0
  refine a_iload_n K (dq 0 rfl) rfl rfl ?_
  refine a_bipush K (dq 1 rfl) (v := 99) rfl ?_
  refine a_icmp_le K (tgt := 17) (dq 2 rfl) rfl (fun c1 => ?_) (fun c1 => ?_)
  · have h := ite_t c1 h
    refine a_iload_n K (dq 10 rfl) rfl rfl ?_
    refine a_bipush K (dq 11 rfl) (v := 9) rfl ?_
    refine a_icmp_le K (tgt := 37) (dq 12 rfl) rfl (fun c2 => ?_) (fun c2 => ?_)
    · have h := ite_t c2 h
      refine a_aload_n K (dq 22 rfl) rfl rfl ?_
      refine a_bipush K (dq 23 rfl) (v := 48) rfl ?_
      refine a_iload_n K (dq 24 rfl) rfl rfl ?_
      refine a_bipush K (dq 25 rfl) (v := 10) rfl ?_
      refine a_irem K (dq 26 rfl) (by decide) ?_
      refine a_iadd K (dq 27 rfl) ?_
      obtain ⟨r3, h3, h⟩ := bnd h
      refine a_callVv K (s_X7_writes S (48 + (a1 - a1 / 10 * 10))  σ r3 h3) v_20 rfl rfl cw_X7_writes ml_X7_230 (by decide) rfl (rest := []) rfl (Nat.le_of_ble_eq_true rfl) (dq 28 rfl) (by decide) ?_
      obtain rfl := Option.some.inj h
      exact a_vret K rfl (dq 29 rfl) (Nat.le_of_ble_eq_true rfl) (Nat.le_of_ble_eq_true rfl) rfl rfl
    · have h := ite_f c2 h
      refine a_aload_n K (dq 13 rfl) rfl rfl ?_
      refine a_bipush K (dq 14 rfl) (v := 48) rfl ?_
      refine a_iload_n K (dq 15 rfl) rfl rfl ?_
      refine a_bipush K (dq 16 rfl) (v := 10) rfl ?_
      refine a_idiv K (dq 17 rfl) (by decide) ?_
      refine a_bipush K (dq 18 rfl) (v := 10) rfl ?_
      refine a_irem K (dq 19 rfl) (by decide) ?_
      refine a_iadd K (dq 20 rfl) ?_
      obtain ⟨r4, h4, h⟩ := bnd h
      refine a_callVv K (s_X7_writes S (48 + ((a1 / 10) - (a1 / 10) / 10 * 10))  σ r4 h4) v_20 rfl rfl cw_X7_writes ml_X7_230 (by decide) rfl (rest := []) rfl (Nat.le_of_ble_eq_true rfl) (dq 21 rfl) (by decide) ?_
      refine a_aload_n K (dq 22 rfl) rfl rfl ?_
      refine a_bipush K (dq 23 rfl) (v := 48) rfl ?_
      refine a_iload_n K (dq 24 rfl) rfl rfl ?_
      refine a_bipush K (dq 25 rfl) (v := 10) rfl ?_
      refine a_irem K (dq 26 rfl) (by decide) ?_
      refine a_iadd K (dq 27 rfl) ?_
      obtain ⟨r5, h5, h⟩ := bnd h
      refine a_callVv K (s_X7_writes S (48 + (a1 - a1 / 10 * 10))  r4 r5 h5) v_20 rfl rfl cw_X7_writes ml_X7_230 (by decide) rfl (rest := []) rfl (Nat.le_of_ble_eq_true rfl) (dq 28 rfl) (by decide) ?_
      obtain rfl := Option.some.inj h
      exact a_vret K rfl (dq 29 rfl) (Nat.le_of_ble_eq_true rfl) (Nat.le_of_ble_eq_true rfl) rfl rfl
  · have h := ite_f c1 h
    refine a_aload_n K (dq 3 rfl) rfl rfl ?_
    refine a_bipush K (dq 4 rfl) (v := 48) rfl ?_
    refine a_iload_n K (dq 5 rfl) rfl rfl ?_
    refine a_bipush K (dq 6 rfl) (v := 100) rfl ?_
    refine a_idiv K (dq 7 rfl) (by decide) ?_
    refine a_iadd K (dq 8 rfl) ?_
    obtain ⟨r6, h6, h⟩ := bnd h
    refine a_callVv K (s_X7_writes S (48 + (a1 / 100))  σ r6 h6) v_20 rfl rfl cw_X7_writes ml_X7_230 (by decide) rfl (rest := []) rfl (Nat.le_of_ble_eq_true rfl) (dq 9 rfl) (by decide) ?_
    refine a_iload_n K (dq 10 rfl) rfl rfl ?_
    refine a_bipush K (dq 11 rfl) (v := 9) rfl ?_
    refine a_icmp_le K (tgt := 37) (dq 12 rfl) rfl (fun c7 => ?_) (fun c7 => ?_)
    · have h := ite_t c7 h
      refine a_aload_n K (dq 22 rfl) rfl rfl ?_
      refine a_bipush K (dq 23 rfl) (v := 48) rfl ?_
      refine a_iload_n K (dq 24 rfl) rfl rfl ?_
      refine a_bipush K (dq 25 rfl) (v := 10) rfl ?_
      refine a_irem K (dq 26 rfl) (by decide) ?_
      refine a_iadd K (dq 27 rfl) ?_
      obtain ⟨r8, h8, h⟩ := bnd h
      refine a_callVv K (s_X7_writes S (48 + (a1 - a1 / 10 * 10))  r6 r8 h8) v_20 rfl rfl cw_X7_writes ml_X7_230 (by decide) rfl (rest := []) rfl (Nat.le_of_ble_eq_true rfl) (dq 28 rfl) (by decide) ?_
      obtain rfl := Option.some.inj h
      exact a_vret K rfl (dq 29 rfl) (Nat.le_of_ble_eq_true rfl) (Nat.le_of_ble_eq_true rfl) rfl rfl
    · have h := ite_f c7 h
      refine a_aload_n K (dq 13 rfl) rfl rfl ?_
      refine a_bipush K (dq 14 rfl) (v := 48) rfl ?_
      refine a_iload_n K (dq 15 rfl) rfl rfl ?_
      refine a_bipush K (dq 16 rfl) (v := 10) rfl ?_
      refine a_idiv K (dq 17 rfl) (by decide) ?_
      refine a_bipush K (dq 18 rfl) (v := 10) rfl ?_
      refine a_irem K (dq 19 rfl) (by decide) ?_
      refine a_iadd K (dq 20 rfl) ?_
      obtain ⟨r9, h9, h⟩ := bnd h
      refine a_callVv K (s_X7_writes S (48 + ((a1 / 10) - (a1 / 10) / 10 * 10))  r6 r9 h9) v_20 rfl rfl cw_X7_writes ml_X7_230 (by decide) rfl (rest := []) rfl (Nat.le_of_ble_eq_true rfl) (dq 21 rfl) (by decide) ?_
      refine a_aload_n K (dq 22 rfl) rfl rfl ?_
      refine a_bipush K (dq 23 rfl) (v := 48) rfl ?_
      refine a_iload_n K (dq 24 rfl) rfl rfl ?_
      refine a_bipush K (dq 25 rfl) (v := 10) rfl ?_
      refine a_irem K (dq 26 rfl) (by decide) ?_
      refine a_iadd K (dq 27 rfl) ?_
      obtain ⟨r10, h10, h⟩ := bnd h
      refine a_callVv K (s_X7_writes S (48 + (a1 - a1 / 10 * 10))  r9 r10 h10) v_20 rfl rfl cw_X7_writes ml_X7_230 (by decide) rfl (rest := []) rfl (Nat.le_of_ble_eq_true rfl) (dq 28 rfl) (by decide) ?_
      obtain rfl := Option.some.inj h
      exact a_vret K rfl (dq 29 rfl) (Nat.le_of_ble_eq_true rfl) (Nat.le_of_ble_eq_true rfl) rfl rfl
def t_X7_character : List (Nat × Instr × Nat) := [(0, .aload_n 0, 1), (1, .iload_n 1, 1), (2, .iconst 0, 1), (3, .aload_n 0, 1), (4, .getfield 227, 3), (7, .iconst 1, 1), (8, .isub, 1), (9, .invokestatic 65, 3), (12, .ifCond .eq 7, 3), (15, .iconst 0, 1), (16, .goto 4, 3), (19, .iconst 1, 1), (20, .invokevirtual 146, 3), (23, .ifCond .eq 8, 3), (26, .bipush 32, 2), (28, .goto 9, 3), (31, .aload_n 0, 1), (32, .getfield 29, 3), (35, .iload_n 1, 1), (36, .caload, 1), (37, .ireturn, 1)]
theorem dt_X7_character : tblOK cX7_character t_X7_character = true := by decide +kernel
def p_X7_character (a1 : Int32) (σ : Sg) : Option (Int32 × Sg) :=
  (p_X7_in a1 0 ((gI σ 20 0 16) - 1) σ).bind fun r1 => if r1 = 0 then ((p_X7_fails 1 σ).bind fun r3 => if r3.1 = 0 then (if ib a1 120 then (some (nch (gA r3.2 26 0 a1.toNatClampNeg), r3.2)) else none) else (some (nch 32, r3.2))) else ((p_X7_fails 0 σ).bind fun r6 => if r6.1 = 0 then (if ib a1 120 then (some (nch (gA r6.2 26 0 a1.toNatClampNeg), r6.2)) else none) else (some (nch 32, r6.2)))
set_option maxRecDepth 20000 in
set_option maxHeartbeats 1000000 in
theorem s_X7_character {l : Launch} {D : va_G} {ty : Nat → ClassId} {ρ : Nat → Nat → Nat} {N0 : Nat} (S : St l ty ρ N0) (a1 : Int32)  (σ : Sg) (r : (Int32 × Sg)) (h : p_X7_character a1 σ = some r) : AMet l D ty ρ N0 yX7_character (Cond.code yX7_character cX7_character 2 (some .char) :: GW) (rmk 2 0 0) [.ref (ρ 20 0), .int a1] σ (oI r.1) r.2 := by
  refine am_enter S (by decide) rfl rfl (Nat.le_of_ble_eq_true rfl) ?_
  intro p e s m args below meth c K hX
  have dq := @tat _ _ dt_X7_character
  unfold p_X7_character at h
  show WA p l e _ s m args below meth c D ty ρ N0 2 _ 0 [some (.ref (ρ 20 0)), some (.int a1)] [] σ 0 0
  refine a_aload_n K (dq 0 rfl) rfl rfl ?_
  refine a_iload_n K (dq 1 rfl) rfl rfl ?_
  refine a_iconst K (dq 2 rfl) (v := 0) rfl ?_
  refine a_aload_n K (dq 3 rfl) rfl rfl ?_
  refine a_get K (T := 20) (i := 0) (k := 16) (v := .int (gI σ 20 0 16)) v_20 rfl rfl in_X7 (Nat.le_of_ble_eq_true rfl) fl_X7_227 rfl (dq 4 rfl) ?_
  refine a_iconst K (dq 5 rfl) (v := 1) rfl ?_
  refine a_isub K (dq 6 rfl) ?_
  obtain ⟨r1, h1, h⟩ := bnd h
  refine a_callSi K (s_X7_in S a1 0 ((gI σ 20 0 16) - 1)  σ r1 h1) cw_X7_in ml_X7_65 (by decide) rfl (rest := [.ref (ρ 20 0)]) rfl (Nat.le_of_ble_eq_true rfl) (dq 7 rfl) (by decide) ?_
  refine a_if_eq K (tgt := 19) (dq 8 rfl) rfl (fun c2 => ?_) (fun c2 => ?_)
  · have h := ite_t c2 h
    refine a_iconst K (dq 11 rfl) (v := 1) rfl ?_
    obtain ⟨r3, h3, h⟩ := bnd h
    refine a_callVi K (s_X7_fails S 1  σ r3 h3) v_20 rfl rfl cw_X7_fails ml_X7_146 (by decide) rfl (rest := []) rfl (Nat.le_of_ble_eq_true rfl) (dq 12 rfl) (by decide) ?_
    refine a_if_eq K (tgt := 31) (dq 13 rfl) rfl (fun c4 => ?_) (fun c4 => ?_)
    · have h := ite_t c4 h
      refine a_aload_n K (dq 16 rfl) rfl rfl ?_
      refine a_get K (T := 20) (i := 0) (k := 15) (v := .ref (ρ 26 0)) v_20 rfl rfl in_X7 (Nat.le_of_ble_eq_true rfl) fl_X7_29 rfl (dq 17 rfl) ?_
      refine a_iload_n K (dq 18 rfl) rfl rfl ?_
      obtain ⟨c5, h⟩ := ib_some h
      refine a_cald K (T := 26) (i := 0) v_26 rfl rfl c5 (dq 19 rfl) ?_
      obtain rfl := Option.some.inj h
      exact a_iret K rfl rfl (dq 20 rfl) (Nat.le_of_ble_eq_true rfl) (Nat.le_of_ble_eq_true rfl) rfl rfl
    · have h := ite_f c4 h
      refine a_bipush K (dq 14 rfl) (v := 32) rfl ?_
      refine a_goto K (tgt := 37) (dq 15 rfl) rfl ?_
      obtain rfl := Option.some.inj h
      exact a_iret K rfl rfl (dq 20 rfl) (Nat.le_of_ble_eq_true rfl) (Nat.le_of_ble_eq_true rfl) rfl rfl
  · have h := ite_f c2 h
    refine a_iconst K (dq 9 rfl) (v := 0) rfl ?_
    refine a_goto K (tgt := 20) (dq 10 rfl) rfl ?_
    obtain ⟨r6, h6, h⟩ := bnd h
    refine a_callVi K (s_X7_fails S 0  σ r6 h6) v_20 rfl rfl cw_X7_fails ml_X7_146 (by decide) rfl (rest := []) rfl (Nat.le_of_ble_eq_true rfl) (dq 12 rfl) (by decide) ?_
    refine a_if_eq K (tgt := 31) (dq 13 rfl) rfl (fun c7 => ?_) (fun c7 => ?_)
    · have h := ite_t c7 h
      refine a_aload_n K (dq 16 rfl) rfl rfl ?_
      refine a_get K (T := 20) (i := 0) (k := 15) (v := .ref (ρ 26 0)) v_20 rfl rfl in_X7 (Nat.le_of_ble_eq_true rfl) fl_X7_29 rfl (dq 17 rfl) ?_
      refine a_iload_n K (dq 18 rfl) rfl rfl ?_
      obtain ⟨c8, h⟩ := ib_some h
      refine a_cald K (T := 26) (i := 0) v_26 rfl rfl c8 (dq 19 rfl) ?_
      obtain rfl := Option.some.inj h
      exact a_iret K rfl rfl (dq 20 rfl) (Nat.le_of_ble_eq_true rfl) (Nat.le_of_ble_eq_true rfl) rfl rfl
    · have h := ite_f c7 h
      refine a_bipush K (dq 14 rfl) (v := 32) rfl ?_
      refine a_goto K (tgt := 37) (dq 15 rfl) rfl ?_
      obtain rfl := Option.some.inj h
      exact a_iret K rfl rfl (dq 20 rfl) (Nat.le_of_ble_eq_true rfl) (Nat.le_of_ble_eq_true rfl) rfl rfl
def t_X7_tolls : List (Nat × Instr × Nat) := [(0, .iconst 0, 1), (1, .istore_n 1, 1), (2, .iconst 0, 1), (3, .istore_n 2, 1), (4, .iload_n 2, 1), (5, .aload_n 0, 1), (6, .getfield 7, 3), (9, .iconst 0, 1), (10, .iaload, 1), (11, .if_icmp .ge 17, 3), (14, .iload_n 1, 1), (15, .aload_n 0, 1), (16, .iload_n 2, 1), (17, .invokevirtual 93, 3), (20, .iadd, 1), (21, .istore_n 1, 1), (22, .iinc 2 1, 3), (25, .goto (-21), 3), (28, .iload_n 1, 1), (29, .ireturn, 1)]
theorem dt_X7_tolls : tblOK cX7_tolls t_X7_tolls = true := by decide +kernel
def p_X7_tolls_L4  (σ : Sg) : Nat → Int32 → Int32 → Option Int32
  | 0, _, _ => none
  | n + 1, v1, v2 => if (gA σ 21 0 0) ≤ v2 then (some v1) else ((p_X7_toll v2 σ).bind fun r2 => p_X7_tolls_L4 σ n (v1 + r2) (v2 + 1))
def p_X7_tolls  (σ : Sg) : Option Int32 :=
  p_X7_tolls_L4 σ 400 0 0
set_option maxRecDepth 20000 in
set_option maxHeartbeats 1000000 in
theorem s_X7_tolls_L4 {l : Launch} {D : va_G} {ty : Nat → ClassId} {ρ : Nat → Nat → Nat} {N0 : Nat} (S : St l ty ρ N0)   (σ : Sg) : ∀ (n : Nat) (v1 : Int32) (v2 : Int32) (r : Int32) (h : p_X7_tolls_L4  σ n v1 v2 = some r) {p : Program} {e : Env} {s : State} {m : MethodId} {args : Array Value} {below : List Frame} {meth : Method} {c : Code} (K : Cx p l s m args meth c cX7_tolls 3 RX7 (some .int) D ty ρ N0) (hX : ∀ x ∈ c.exceptionTable.toList, False), WA p l e (rmk 2 0 0) s m args below meth c D ty ρ N0 3 (vx_MQ below (oQ D ty ρ N0 (oI r) σ) (oX D ty ρ N0 (oI r) σ) args s 0 0 (fun q => N0 ≤ q)) 4 [some (.ref (ρ 20 0)), some (.int v1), some (.int v2)] [] σ 0 0 := by
  intro n
  induction n with
  | zero =>
    intro v1 v2 r h
    simp only [p_X7_tolls_L4] at h
    cases h
  | succ n ih =>
    intro v1 v2 r h p e s m args below meth c K hX
    have dq := @tat _ _ dt_X7_tolls
    rw [p_X7_tolls_L4] at h
    refine a_iload_n K (dq 4 rfl) rfl rfl ?_
    refine a_aload_n K (dq 5 rfl) rfl rfl ?_
    refine a_get K (T := 20) (i := 0) (k := 0) (v := .ref (ρ 21 0)) v_20 rfl rfl in_X7 (Nat.le_of_ble_eq_true rfl) fl_X7_7 rfl (dq 6 rfl) ?_
    refine a_iconst K (dq 7 rfl) (v := 0) rfl ?_
    refine a_ialdK K (T := 21) (i := 0) (nj := 0) v_21 rfl rfl (ib_in rfl) rfl (dq 8 rfl) ?_
    refine a_icmp_ge K (tgt := 28) (dq 9 rfl) rfl (fun c1 => ?_) (fun c1 => ?_)
    · have h := ite_t c1 h
      refine a_iload_n K (dq 18 rfl) rfl rfl ?_
      obtain rfl := Option.some.inj h
      exact a_iret K rfl rfl (dq 19 rfl) (Nat.le_of_ble_eq_true rfl) (Nat.le_of_ble_eq_true rfl) rfl rfl
    · have h := ite_f c1 h
      refine a_iload_n K (dq 10 rfl) rfl rfl ?_
      refine a_aload_n K (dq 11 rfl) rfl rfl ?_
      refine a_iload_n K (dq 12 rfl) rfl rfl ?_
      obtain ⟨r2, h2, h⟩ := bnd h
      refine a_callVi K (s_X7_toll S v2  σ r2 h2) v_20 rfl rfl cw_X7_toll ml_X7_93 (by decide) rfl (rest := [.int v1]) rfl (Nat.le_of_ble_eq_true rfl) (dq 13 rfl) (by decide) ?_
      refine a_iadd K (dq 14 rfl) ?_
      refine a_istore_n K (dq 15 rfl) rfl (Nat.le_of_ble_eq_true rfl) (ls' := [some (.ref (ρ 20 0)), some (.int (v1 + r2)), some (.int v2)]) rfl ?_
      refine a_iinc K (dq 16 rfl) rfl (v := (v2 + 1)) rfl (Nat.le_of_ble_eq_true rfl) (ls' := [some (.ref (ρ 20 0)), some (.int (v1 + r2)), some (.int (v2 + 1))]) rfl ?_
      refine a_goto K (tgt := 4) (dq 17 rfl) rfl ?_
      exact ih (v1 + r2) (v2 + 1) r h K hX
set_option maxRecDepth 20000 in
set_option maxHeartbeats 1000000 in
theorem s_X7_tolls {l : Launch} {D : va_G} {ty : Nat → ClassId} {ρ : Nat → Nat → Nat} {N0 : Nat} (S : St l ty ρ N0)   (σ : Sg) (r : Int32) (h : p_X7_tolls  σ = some r) : AMet l D ty ρ N0 yX7_tolls (Cond.code yX7_tolls cX7_tolls 3 (some .int) :: GW) (rmk 2 0 0) [.ref (ρ 20 0)] σ (oI r) σ := by
  refine am_enter S (by decide) rfl rfl (Nat.le_of_ble_eq_true rfl) ?_
  intro p e s m args below meth c K hX
  have dq := @tat _ _ dt_X7_tolls
  unfold p_X7_tolls at h
  show WA p l e _ s m args below meth c D ty ρ N0 3 _ 0 [some (.ref (ρ 20 0)), none, none] [] σ 0 0
  refine a_iconst K (dq 0 rfl) (v := 0) rfl ?_
  refine a_istore_n K (dq 1 rfl) rfl (Nat.le_of_ble_eq_true rfl) (ls' := [some (.ref (ρ 20 0)), some (.int 0), none]) rfl ?_
  refine a_iconst K (dq 2 rfl) (v := 0) rfl ?_
  refine a_istore_n K (dq 3 rfl) rfl (Nat.le_of_ble_eq_true rfl) (ls' := [some (.ref (ρ 20 0)), some (.int 0), some (.int 0)]) rfl ?_
  exact s_X7_tolls_L4 S   σ 400 0 0 r h K hX
def t_X7_paidShare : List (Nat × Instr × Nat) := [(0, .aload_n 0, 1), (1, .aload_n 0, 1), (2, .getfield 7, 3), (5, .iconst 3, 1), (6, .iaload, 1), (7, .ifCond .ne 7, 3), (10, .iconst 1, 1), (11, .goto 4, 3), (14, .iconst 0, 1), (15, .invokevirtual 146, 3), (18, .ifCond .eq 7, 3), (21, .dconst 0, 1), (22, .goto 18, 3), (25, .aload_n 0, 1), (26, .getfield 7, 3), (29, .iconst 4, 1), (30, .iaload, 1), (31, .i2d, 1), (32, .aload_n 0, 1), (33, .getfield 7, 3), (36, .iconst 3, 1), (37, .iaload, 1), (38, .i2d, 1), (39, .ddiv, 1), (40, .dreturn, 1)]
theorem dt_X7_paidShare : tblOK cX7_paidShare t_X7_paidShare = true := by decide +kernel
def p_X7_paidShare  (σ : Sg) : Option (UInt64 × Sg) :=
  if (gA σ 21 0 3) = 0 then ((p_X7_fails 1 σ).bind fun r5 => if r5.1 = 0 then (if nn64 (FP.ddiv (FP.i2d (gA r5.2 21 0 4)) (FP.i2d (gA r5.2 21 0 3))) then (some ((FP.ddiv (FP.i2d (gA r5.2 21 0 4)) (FP.i2d (gA r5.2 21 0 3))), r5.2)) else none) else (some (FP.dconst0, r5.2))) else ((p_X7_fails 0 σ).bind fun r2 => if r2.1 = 0 then (if nn64 (FP.ddiv (FP.i2d (gA r2.2 21 0 4)) (FP.i2d (gA r2.2 21 0 3))) then (some ((FP.ddiv (FP.i2d (gA r2.2 21 0 4)) (FP.i2d (gA r2.2 21 0 3))), r2.2)) else none) else (some (FP.dconst0, r2.2)))
set_option maxRecDepth 20000 in
set_option maxHeartbeats 1000000 in
theorem s_X7_paidShare {l : Launch} {D : va_G} {ty : Nat → ClassId} {ρ : Nat → Nat → Nat} {N0 : Nat} (S : St l ty ρ N0)   (σ : Sg) (r : (UInt64 × Sg)) (h : p_X7_paidShare  σ = some r) : AMet l D ty ρ N0 yX7_paidShare (Cond.code yX7_paidShare cX7_paidShare 1 (some .double) :: GW) (rmk 2 0 0) [.ref (ρ 20 0)] σ (.inl (some (.double r.1))) r.2 := by
  refine am_enter S (by decide) rfl rfl (Nat.le_of_ble_eq_true rfl) ?_
  intro p e s m args below meth c K hX
  have dq := @tat _ _ dt_X7_paidShare
  unfold p_X7_paidShare at h
  show WA p l e _ s m args below meth c D ty ρ N0 1 _ 0 [some (.ref (ρ 20 0))] [] σ 0 0
  refine a_aload_n K (dq 0 rfl) rfl rfl ?_
  refine a_aload_n K (dq 1 rfl) rfl rfl ?_
  refine a_get K (T := 20) (i := 0) (k := 0) (v := .ref (ρ 21 0)) v_20 rfl rfl in_X7 (Nat.le_of_ble_eq_true rfl) fl_X7_7 rfl (dq 2 rfl) ?_
  refine a_iconst K (dq 3 rfl) (v := 3) rfl ?_
  refine a_ialdK K (T := 21) (i := 0) (nj := 3) v_21 rfl rfl (ib_in rfl) rfl (dq 4 rfl) ?_
  refine a_if_ne K (tgt := 14) (dq 5 rfl) rfl (fun c1 => ?_) (fun c1 => ?_)
  · have h := ite_f c1 h
    refine a_iconst K (dq 8 rfl) (v := 0) rfl ?_
    obtain ⟨r2, h2, h⟩ := bnd h
    refine a_callVi K (s_X7_fails S 0  σ r2 h2) v_20 rfl rfl cw_X7_fails ml_X7_146 (by decide) rfl (rest := []) rfl (Nat.le_of_ble_eq_true rfl) (dq 9 rfl) (by decide) ?_
    refine a_if_eq K (tgt := 25) (dq 10 rfl) rfl (fun c3 => ?_) (fun c3 => ?_)
    · have h := ite_t c3 h
      refine a_aload_n K (dq 13 rfl) rfl rfl ?_
      refine a_get K (T := 20) (i := 0) (k := 0) (v := .ref (ρ 21 0)) v_20 rfl rfl in_X7 (Nat.le_of_ble_eq_true rfl) fl_X7_7 rfl (dq 14 rfl) ?_
      refine a_iconst K (dq 15 rfl) (v := 4) rfl ?_
      refine a_ialdK K (T := 21) (i := 0) (nj := 4) v_21 rfl rfl (ib_in rfl) rfl (dq 16 rfl) ?_
      refine a_i2d K (dq 17 rfl) ?_
      refine a_aload_n K (dq 18 rfl) rfl rfl ?_
      refine a_get K (T := 20) (i := 0) (k := 0) (v := .ref (ρ 21 0)) v_20 rfl rfl in_X7 (Nat.le_of_ble_eq_true rfl) fl_X7_7 rfl (dq 19 rfl) ?_
      refine a_iconst K (dq 20 rfl) (v := 3) rfl ?_
      refine a_ialdK K (T := 21) (i := 0) (nj := 3) v_21 rfl rfl (ib_in rfl) rfl (dq 21 rfl) ?_
      refine a_i2d K (dq 22 rfl) ?_
      obtain ⟨c4, h⟩ := nn64_some h
      refine a_ddiv K (dq 23 rfl) c4 ?_
      obtain rfl := Option.some.inj h
      exact a_dret K rfl (dq 24 rfl) (Nat.le_of_ble_eq_true rfl) (Nat.le_of_ble_eq_true rfl) rfl rfl
    · have h := ite_f c3 h
      refine a_dconst0 K (dq 11 rfl) ?_
      refine a_goto K (tgt := 40) (dq 12 rfl) rfl ?_
      obtain rfl := Option.some.inj h
      exact a_dret K rfl (dq 24 rfl) (Nat.le_of_ble_eq_true rfl) (Nat.le_of_ble_eq_true rfl) rfl rfl
  · have h := ite_t c1 h
    refine a_iconst K (dq 6 rfl) (v := 1) rfl ?_
    refine a_goto K (tgt := 15) (dq 7 rfl) rfl ?_
    obtain ⟨r5, h5, h⟩ := bnd h
    refine a_callVi K (s_X7_fails S 1  σ r5 h5) v_20 rfl rfl cw_X7_fails ml_X7_146 (by decide) rfl (rest := []) rfl (Nat.le_of_ble_eq_true rfl) (dq 9 rfl) (by decide) ?_
    refine a_if_eq K (tgt := 25) (dq 10 rfl) rfl (fun c6 => ?_) (fun c6 => ?_)
    · have h := ite_t c6 h
      refine a_aload_n K (dq 13 rfl) rfl rfl ?_
      refine a_get K (T := 20) (i := 0) (k := 0) (v := .ref (ρ 21 0)) v_20 rfl rfl in_X7 (Nat.le_of_ble_eq_true rfl) fl_X7_7 rfl (dq 14 rfl) ?_
      refine a_iconst K (dq 15 rfl) (v := 4) rfl ?_
      refine a_ialdK K (T := 21) (i := 0) (nj := 4) v_21 rfl rfl (ib_in rfl) rfl (dq 16 rfl) ?_
      refine a_i2d K (dq 17 rfl) ?_
      refine a_aload_n K (dq 18 rfl) rfl rfl ?_
      refine a_get K (T := 20) (i := 0) (k := 0) (v := .ref (ρ 21 0)) v_20 rfl rfl in_X7 (Nat.le_of_ble_eq_true rfl) fl_X7_7 rfl (dq 19 rfl) ?_
      refine a_iconst K (dq 20 rfl) (v := 3) rfl ?_
      refine a_ialdK K (T := 21) (i := 0) (nj := 3) v_21 rfl rfl (ib_in rfl) rfl (dq 21 rfl) ?_
      refine a_i2d K (dq 22 rfl) ?_
      obtain ⟨c7, h⟩ := nn64_some h
      refine a_ddiv K (dq 23 rfl) c7 ?_
      obtain rfl := Option.some.inj h
      exact a_dret K rfl (dq 24 rfl) (Nat.le_of_ble_eq_true rfl) (Nat.le_of_ble_eq_true rfl) rfl rfl
    · have h := ite_f c6 h
      refine a_dconst0 K (dq 11 rfl) ?_
      refine a_goto K (tgt := 40) (dq 12 rfl) rfl ?_
      obtain rfl := Option.some.inj h
      exact a_dret K rfl (dq 24 rfl) (Nat.le_of_ble_eq_true rfl) (Nat.le_of_ble_eq_true rfl) rfl rfl
def t_X7_treesNow : List (Nat × Instr × Nat) := [(0, .iconst 0, 1), (1, .istore_n 1, 1), (2, .iconst 0, 1), (3, .istore_n 2, 1), (4, .iload_n 2, 1), (5, .aload_n 0, 1), (6, .getfield 7, 3), (9, .iconst 0, 1), (10, .iaload, 1), (11, .if_icmp .ge 25, 3), (14, .iload_n 1, 1), (15, .aload_n 0, 1), (16, .iload_n 2, 1), (17, .invokevirtual 69, 3), (20, .ifCond .ge 7, 3), (23, .iconst 1, 1), (24, .goto 4, 3), (27, .iconst 0, 1), (28, .iadd, 1), (29, .istore_n 1, 1), (30, .iinc 2 1, 3), (33, .goto (-29), 3), (36, .iload_n 1, 1), (37, .ireturn, 1)]
theorem dt_X7_treesNow : tblOK cX7_treesNow t_X7_treesNow = true := by decide +kernel
def p_X7_treesNow_L4  (σ : Sg) : Nat → Int32 → Int32 → Option Int32
  | 0, _, _ => none
  | n + 1, v1, v2 => if (gA σ 21 0 0) ≤ v2 then (some v1) else ((p_X7_parent v2 σ).bind fun r2 => if 0 ≤ r2 then (p_X7_treesNow_L4 σ n (v1 + 0) (v2 + 1)) else (p_X7_treesNow_L4 σ n (v1 + 1) (v2 + 1)))
def p_X7_treesNow  (σ : Sg) : Option Int32 :=
  p_X7_treesNow_L4 σ 400 0 0
set_option maxRecDepth 20000 in
set_option maxHeartbeats 1000000 in
theorem s_X7_treesNow_L4 {l : Launch} {D : va_G} {ty : Nat → ClassId} {ρ : Nat → Nat → Nat} {N0 : Nat} (S : St l ty ρ N0)   (σ : Sg) : ∀ (n : Nat) (v1 : Int32) (v2 : Int32) (r : Int32) (h : p_X7_treesNow_L4  σ n v1 v2 = some r) {p : Program} {e : Env} {s : State} {m : MethodId} {args : Array Value} {below : List Frame} {meth : Method} {c : Code} (K : Cx p l s m args meth c cX7_treesNow 3 RX7 (some .int) D ty ρ N0) (hX : ∀ x ∈ c.exceptionTable.toList, False), WA p l e (rmk 2 0 0) s m args below meth c D ty ρ N0 3 (vx_MQ below (oQ D ty ρ N0 (oI r) σ) (oX D ty ρ N0 (oI r) σ) args s 0 0 (fun q => N0 ≤ q)) 4 [some (.ref (ρ 20 0)), some (.int v1), some (.int v2)] [] σ 0 0 := by
  intro n
  induction n with
  | zero =>
    intro v1 v2 r h
    simp only [p_X7_treesNow_L4] at h
    cases h
  | succ n ih =>
    intro v1 v2 r h p e s m args below meth c K hX
    have dq := @tat _ _ dt_X7_treesNow
    rw [p_X7_treesNow_L4] at h
    refine a_iload_n K (dq 4 rfl) rfl rfl ?_
    refine a_aload_n K (dq 5 rfl) rfl rfl ?_
    refine a_get K (T := 20) (i := 0) (k := 0) (v := .ref (ρ 21 0)) v_20 rfl rfl in_X7 (Nat.le_of_ble_eq_true rfl) fl_X7_7 rfl (dq 6 rfl) ?_
    refine a_iconst K (dq 7 rfl) (v := 0) rfl ?_
    refine a_ialdK K (T := 21) (i := 0) (nj := 0) v_21 rfl rfl (ib_in rfl) rfl (dq 8 rfl) ?_
    refine a_icmp_ge K (tgt := 36) (dq 9 rfl) rfl (fun c1 => ?_) (fun c1 => ?_)
    · have h := ite_t c1 h
      refine a_iload_n K (dq 22 rfl) rfl rfl ?_
      obtain rfl := Option.some.inj h
      exact a_iret K rfl rfl (dq 23 rfl) (Nat.le_of_ble_eq_true rfl) (Nat.le_of_ble_eq_true rfl) rfl rfl
    · have h := ite_f c1 h
      refine a_iload_n K (dq 10 rfl) rfl rfl ?_
      refine a_aload_n K (dq 11 rfl) rfl rfl ?_
      refine a_iload_n K (dq 12 rfl) rfl rfl ?_
      obtain ⟨r2, h2, h⟩ := bnd h
      refine a_callVi K (s_X7_parent S v2  σ r2 h2) v_20 rfl rfl cw_X7_parent ml_X7_69 (by decide) rfl (rest := [.int v1]) rfl (Nat.le_of_ble_eq_true rfl) (dq 13 rfl) (by decide) ?_
      refine a_if_ge K (tgt := 27) (dq 14 rfl) rfl (fun c3 => ?_) (fun c3 => ?_)
      · have h := ite_t c3 h
        refine a_iconst K (dq 17 rfl) (v := 0) rfl ?_
        refine a_iadd K (dq 18 rfl) ?_
        refine a_istore_n K (dq 19 rfl) rfl (Nat.le_of_ble_eq_true rfl) (ls' := [some (.ref (ρ 20 0)), some (.int (v1 + 0)), some (.int v2)]) rfl ?_
        refine a_iinc K (dq 20 rfl) rfl (v := (v2 + 1)) rfl (Nat.le_of_ble_eq_true rfl) (ls' := [some (.ref (ρ 20 0)), some (.int (v1 + 0)), some (.int (v2 + 1))]) rfl ?_
        refine a_goto K (tgt := 4) (dq 21 rfl) rfl ?_
        exact ih (v1 + 0) (v2 + 1) r h K hX
      · have h := ite_f c3 h
        refine a_iconst K (dq 15 rfl) (v := 1) rfl ?_
        refine a_goto K (tgt := 28) (dq 16 rfl) rfl ?_
        refine a_iadd K (dq 18 rfl) ?_
        refine a_istore_n K (dq 19 rfl) rfl (Nat.le_of_ble_eq_true rfl) (ls' := [some (.ref (ρ 20 0)), some (.int (v1 + 1)), some (.int v2)]) rfl ?_
        refine a_iinc K (dq 20 rfl) rfl (v := (v2 + 1)) rfl (Nat.le_of_ble_eq_true rfl) (ls' := [some (.ref (ρ 20 0)), some (.int (v1 + 1)), some (.int (v2 + 1))]) rfl ?_
        refine a_goto K (tgt := 4) (dq 21 rfl) rfl ?_
        exact ih (v1 + 1) (v2 + 1) r h K hX
set_option maxRecDepth 20000 in
set_option maxHeartbeats 1000000 in
theorem s_X7_treesNow {l : Launch} {D : va_G} {ty : Nat → ClassId} {ρ : Nat → Nat → Nat} {N0 : Nat} (S : St l ty ρ N0)   (σ : Sg) (r : Int32) (h : p_X7_treesNow  σ = some r) : AMet l D ty ρ N0 yX7_treesNow (Cond.code yX7_treesNow cX7_treesNow 3 (some .int) :: GW) (rmk 2 0 0) [.ref (ρ 20 0)] σ (oI r) σ := by
  refine am_enter S (by decide) rfl rfl (Nat.le_of_ble_eq_true rfl) ?_
  intro p e s m args below meth c K hX
  have dq := @tat _ _ dt_X7_treesNow
  unfold p_X7_treesNow at h
  show WA p l e _ s m args below meth c D ty ρ N0 3 _ 0 [some (.ref (ρ 20 0)), none, none] [] σ 0 0
  refine a_iconst K (dq 0 rfl) (v := 0) rfl ?_
  refine a_istore_n K (dq 1 rfl) rfl (Nat.le_of_ble_eq_true rfl) (ls' := [some (.ref (ρ 20 0)), some (.int 0), none]) rfl ?_
  refine a_iconst K (dq 2 rfl) (v := 0) rfl ?_
  refine a_istore_n K (dq 3 rfl) rfl (Nat.le_of_ble_eq_true rfl) (ls' := [some (.ref (ρ 20 0)), some (.int 0), some (.int 0)]) rfl ?_
  exact s_X7_treesNow_L4 S   σ 400 0 0 r h K hX
def t_X7_preferring : List (Nat × Instr × Nat) := [(0, .iconst 0, 1), (1, .istore_n 1, 1), (2, .iconst 0, 1), (3, .istore_n 2, 1), (4, .iload_n 2, 1), (5, .aload_n 0, 1), (6, .getfield 7, 3), (9, .iconst 0, 1), (10, .iaload, 1), (11, .if_icmp .ge 25, 3), (14, .iload_n 1, 1), (15, .aload_n 0, 1), (16, .iload_n 2, 1), (17, .invokevirtual 130, 3), (20, .ifCond .lt 7, 3), (23, .iconst 1, 1), (24, .goto 4, 3), (27, .iconst 0, 1), (28, .iadd, 1), (29, .istore_n 1, 1), (30, .iinc 2 1, 3), (33, .goto (-29), 3), (36, .iload_n 1, 1), (37, .ireturn, 1)]
theorem dt_X7_preferring : tblOK cX7_preferring t_X7_preferring = true := by decide +kernel
def p_X7_preferring_L4  (σ : Sg) : Nat → Int32 → Int32 → Option Int32
  | 0, _, _ => none
  | n + 1, v1, v2 => if (gA σ 21 0 0) ≤ v2 then (some v1) else ((p_X7_prefers v2 σ).bind fun r2 => if r2 < 0 then (p_X7_preferring_L4 σ n (v1 + 0) (v2 + 1)) else (p_X7_preferring_L4 σ n (v1 + 1) (v2 + 1)))
def p_X7_preferring  (σ : Sg) : Option Int32 :=
  p_X7_preferring_L4 σ 400 0 0
set_option maxRecDepth 20000 in
set_option maxHeartbeats 1000000 in
theorem s_X7_preferring_L4 {l : Launch} {D : va_G} {ty : Nat → ClassId} {ρ : Nat → Nat → Nat} {N0 : Nat} (S : St l ty ρ N0)   (σ : Sg) : ∀ (n : Nat) (v1 : Int32) (v2 : Int32) (r : Int32) (h : p_X7_preferring_L4  σ n v1 v2 = some r) {p : Program} {e : Env} {s : State} {m : MethodId} {args : Array Value} {below : List Frame} {meth : Method} {c : Code} (K : Cx p l s m args meth c cX7_preferring 3 RX7 (some .int) D ty ρ N0) (hX : ∀ x ∈ c.exceptionTable.toList, False), WA p l e (rmk 2 0 0) s m args below meth c D ty ρ N0 3 (vx_MQ below (oQ D ty ρ N0 (oI r) σ) (oX D ty ρ N0 (oI r) σ) args s 0 0 (fun q => N0 ≤ q)) 4 [some (.ref (ρ 20 0)), some (.int v1), some (.int v2)] [] σ 0 0 := by
  intro n
  induction n with
  | zero =>
    intro v1 v2 r h
    simp only [p_X7_preferring_L4] at h
    cases h
  | succ n ih =>
    intro v1 v2 r h p e s m args below meth c K hX
    have dq := @tat _ _ dt_X7_preferring
    rw [p_X7_preferring_L4] at h
    refine a_iload_n K (dq 4 rfl) rfl rfl ?_
    refine a_aload_n K (dq 5 rfl) rfl rfl ?_
    refine a_get K (T := 20) (i := 0) (k := 0) (v := .ref (ρ 21 0)) v_20 rfl rfl in_X7 (Nat.le_of_ble_eq_true rfl) fl_X7_7 rfl (dq 6 rfl) ?_
    refine a_iconst K (dq 7 rfl) (v := 0) rfl ?_
    refine a_ialdK K (T := 21) (i := 0) (nj := 0) v_21 rfl rfl (ib_in rfl) rfl (dq 8 rfl) ?_
    refine a_icmp_ge K (tgt := 36) (dq 9 rfl) rfl (fun c1 => ?_) (fun c1 => ?_)
    · have h := ite_t c1 h
      refine a_iload_n K (dq 22 rfl) rfl rfl ?_
      obtain rfl := Option.some.inj h
      exact a_iret K rfl rfl (dq 23 rfl) (Nat.le_of_ble_eq_true rfl) (Nat.le_of_ble_eq_true rfl) rfl rfl
    · have h := ite_f c1 h
      refine a_iload_n K (dq 10 rfl) rfl rfl ?_
      refine a_aload_n K (dq 11 rfl) rfl rfl ?_
      refine a_iload_n K (dq 12 rfl) rfl rfl ?_
      obtain ⟨r2, h2, h⟩ := bnd h
      refine a_callVi K (s_X7_prefers S v2  σ r2 h2) v_20 rfl rfl cw_X7_prefers ml_X7_130 (by decide) rfl (rest := [.int v1]) rfl (Nat.le_of_ble_eq_true rfl) (dq 13 rfl) (by decide) ?_
      refine a_if_lt K (tgt := 27) (dq 14 rfl) rfl (fun c3 => ?_) (fun c3 => ?_)
      · have h := ite_t c3 h
        refine a_iconst K (dq 17 rfl) (v := 0) rfl ?_
        refine a_iadd K (dq 18 rfl) ?_
        refine a_istore_n K (dq 19 rfl) rfl (Nat.le_of_ble_eq_true rfl) (ls' := [some (.ref (ρ 20 0)), some (.int (v1 + 0)), some (.int v2)]) rfl ?_
        refine a_iinc K (dq 20 rfl) rfl (v := (v2 + 1)) rfl (Nat.le_of_ble_eq_true rfl) (ls' := [some (.ref (ρ 20 0)), some (.int (v1 + 0)), some (.int (v2 + 1))]) rfl ?_
        refine a_goto K (tgt := 4) (dq 21 rfl) rfl ?_
        exact ih (v1 + 0) (v2 + 1) r h K hX
      · have h := ite_f c3 h
        refine a_iconst K (dq 15 rfl) (v := 1) rfl ?_
        refine a_goto K (tgt := 28) (dq 16 rfl) rfl ?_
        refine a_iadd K (dq 18 rfl) ?_
        refine a_istore_n K (dq 19 rfl) rfl (Nat.le_of_ble_eq_true rfl) (ls' := [some (.ref (ρ 20 0)), some (.int (v1 + 1)), some (.int v2)]) rfl ?_
        refine a_iinc K (dq 20 rfl) rfl (v := (v2 + 1)) rfl (Nat.le_of_ble_eq_true rfl) (ls' := [some (.ref (ρ 20 0)), some (.int (v1 + 1)), some (.int (v2 + 1))]) rfl ?_
        refine a_goto K (tgt := 4) (dq 21 rfl) rfl ?_
        exact ih (v1 + 1) (v2 + 1) r h K hX
set_option maxRecDepth 20000 in
set_option maxHeartbeats 1000000 in
theorem s_X7_preferring {l : Launch} {D : va_G} {ty : Nat → ClassId} {ρ : Nat → Nat → Nat} {N0 : Nat} (S : St l ty ρ N0)   (σ : Sg) (r : Int32) (h : p_X7_preferring  σ = some r) : AMet l D ty ρ N0 yX7_preferring (Cond.code yX7_preferring cX7_preferring 3 (some .int) :: GW) (rmk 2 0 0) [.ref (ρ 20 0)] σ (oI r) σ := by
  refine am_enter S (by decide) rfl rfl (Nat.le_of_ble_eq_true rfl) ?_
  intro p e s m args below meth c K hX
  have dq := @tat _ _ dt_X7_preferring
  unfold p_X7_preferring at h
  show WA p l e _ s m args below meth c D ty ρ N0 3 _ 0 [some (.ref (ρ 20 0)), none, none] [] σ 0 0
  refine a_iconst K (dq 0 rfl) (v := 0) rfl ?_
  refine a_istore_n K (dq 1 rfl) rfl (Nat.le_of_ble_eq_true rfl) (ls' := [some (.ref (ρ 20 0)), some (.int 0), none]) rfl ?_
  refine a_iconst K (dq 2 rfl) (v := 0) rfl ?_
  refine a_istore_n K (dq 3 rfl) rfl (Nat.le_of_ble_eq_true rfl) (ls' := [some (.ref (ρ 20 0)), some (.int 0), some (.int 0)]) rfl ?_
  exact s_X7_preferring_L4 S   σ 400 0 0 r h K hX
def t_X7_undo : List (Nat × Instr × Nat) := [(0, .aload_n 0, 1), (1, .aload_n 0, 1), (2, .getfield 58, 3), (5, .ifCond .ne 7, 3), (8, .iconst 1, 1), (9, .goto 4, 3), (12, .iconst 0, 1), (13, .invokevirtual 146, 3), (16, .ifCond .eq 5, 3), (19, .iconst 0, 1), (20, .ireturn, 1), (21, .aload_n 0, 1), (22, .dup, 1), (23, .getfield 58, 3), (26, .iconst 1, 1), (27, .isub, 1), (28, .putfield 58, 3), (31, .aload_n 0, 1), (32, .getfield 13, 3), (35, .bipush 44, 2), (37, .aload_n 0, 1), (38, .getfield 58, 3), (41, .imul, 1), (42, .aload_n 0, 1), (43, .getfield 7, 3), (46, .iconst 0, 1), (47, .invokestatic 61, 3), (50, .aload_n 0, 1), (51, .getfield 58, 3), (54, .ireturn, 1)]
theorem dt_X7_undo : tblOK cX7_undo t_X7_undo = true := by decide +kernel
def p_X7_undo  (σ : Sg) : Option (Int32 × Sg) :=
  if (gI σ 20 0 5) = 0 then ((p_X7_fails 1 σ).bind fun r5 => if r5.1 = 0 then ((p_X7_copies 22 (44 * (gI (sI r5.2 20 0 5 ((gI r5.2 20 0 5) - 1)) 20 0 5)) 21 0 (sI r5.2 20 0 5 ((gI r5.2 20 0 5) - 1))).bind fun r7 => some ((gI r7 20 0 5), r7)) else (some (0, r5.2))) else ((p_X7_fails 0 σ).bind fun r2 => if r2.1 = 0 then ((p_X7_copies 22 (44 * (gI (sI r2.2 20 0 5 ((gI r2.2 20 0 5) - 1)) 20 0 5)) 21 0 (sI r2.2 20 0 5 ((gI r2.2 20 0 5) - 1))).bind fun r4 => some ((gI r4 20 0 5), r4)) else (some (0, r2.2)))
set_option maxRecDepth 20000 in
set_option maxHeartbeats 1000000 in
theorem s_X7_undo {l : Launch} {D : va_G} {ty : Nat → ClassId} {ρ : Nat → Nat → Nat} {N0 : Nat} (S : St l ty ρ N0)   (σ : Sg) (r : (Int32 × Sg)) (h : p_X7_undo  σ = some r) : AMet l D ty ρ N0 yX7_undo (Cond.code yX7_undo cX7_undo 1 (some .int) :: GW) (rmk 2 0 0) [.ref (ρ 20 0)] σ (oI r.1) r.2 := by
  refine am_enter S (by decide) rfl rfl (Nat.le_of_ble_eq_true rfl) ?_
  intro p e s m args below meth c K hX
  have dq := @tat _ _ dt_X7_undo
  unfold p_X7_undo at h
  show WA p l e _ s m args below meth c D ty ρ N0 1 _ 0 [some (.ref (ρ 20 0))] [] σ 0 0
  refine a_aload_n K (dq 0 rfl) rfl rfl ?_
  refine a_aload_n K (dq 1 rfl) rfl rfl ?_
  refine a_get K (T := 20) (i := 0) (k := 5) (v := .int (gI σ 20 0 5)) v_20 rfl rfl in_X7 (Nat.le_of_ble_eq_true rfl) fl_X7_58 rfl (dq 2 rfl) ?_
  refine a_if_ne K (tgt := 12) (dq 3 rfl) rfl (fun c1 => ?_) (fun c1 => ?_)
  · have h := ite_f c1 h
    refine a_iconst K (dq 6 rfl) (v := 0) rfl ?_
    obtain ⟨r2, h2, h⟩ := bnd h
    refine a_callVi K (s_X7_fails S 0  σ r2 h2) v_20 rfl rfl cw_X7_fails ml_X7_146 (by decide) rfl (rest := []) rfl (Nat.le_of_ble_eq_true rfl) (dq 7 rfl) (by decide) ?_
    refine a_if_eq K (tgt := 21) (dq 8 rfl) rfl (fun c3 => ?_) (fun c3 => ?_)
    · have h := ite_t c3 h
      refine a_aload_n K (dq 11 rfl) rfl rfl ?_
      refine a_dup K (dq 12 rfl) rfl ?_
      refine a_get K (T := 20) (i := 0) (k := 5) (v := .int (gI r2.2 20 0 5)) v_20 rfl rfl in_X7 (Nat.le_of_ble_eq_true rfl) fl_X7_58 rfl (dq 13 rfl) ?_
      refine a_iconst K (dq 14 rfl) (v := 1) rfl ?_
      refine a_isub K (dq 15 rfl) ?_
      refine a_put K (T := 20) (i := 0) (k := 5) v_20 rfl rfl in_X7 tyX7 tyX7_ok nmX7 (Nat.le_of_ble_eq_true rfl) fl_X7_58 rfl rfl (tyX7_ok 5 (by decide)) rfl rfl (dq 16 rfl) ?_
      refine a_aload_n K (dq 17 rfl) rfl rfl ?_
      refine a_get K (T := 20) (i := 0) (k := 1) (v := .ref (ρ 22 0)) v_20 rfl rfl in_X7 (Nat.le_of_ble_eq_true rfl) fl_X7_13 rfl (dq 18 rfl) ?_
      refine a_bipush K (dq 19 rfl) (v := 44) rfl ?_
      refine a_aload_n K (dq 20 rfl) rfl rfl ?_
      refine a_get K (T := 20) (i := 0) (k := 5) (v := .int (gI (sI r2.2 20 0 5 ((gI r2.2 20 0 5) - 1)) 20 0 5)) v_20 rfl rfl in_X7 (Nat.le_of_ble_eq_true rfl) fl_X7_58 rfl (dq 21 rfl) ?_
      refine a_imul K (dq 22 rfl) ?_
      refine a_aload_n K (dq 23 rfl) rfl rfl ?_
      refine a_get K (T := 20) (i := 0) (k := 0) (v := .ref (ρ 21 0)) v_20 rfl rfl in_X7 (Nat.le_of_ble_eq_true rfl) fl_X7_7 rfl (dq 24 rfl) ?_
      refine a_iconst K (dq 25 rfl) (v := 0) rfl ?_
      obtain ⟨r4, h4, h⟩ := bnd h
      refine a_callSv K (s_X7_copies S 22 (44 * (gI (sI r2.2 20 0 5 ((gI r2.2 20 0 5) - 1)) 20 0 5)) 21 0 v_22 rfl rfl v_21 rfl rfl (sI r2.2 20 0 5 ((gI r2.2 20 0 5) - 1)) r4 h4) cw_X7_copies ml_X7_61 (by decide) rfl (rest := []) rfl (Nat.le_of_ble_eq_true rfl) (dq 26 rfl) (by decide) ?_
      refine a_aload_n K (dq 27 rfl) rfl rfl ?_
      refine a_get K (T := 20) (i := 0) (k := 5) (v := .int (gI r4 20 0 5)) v_20 rfl rfl in_X7 (Nat.le_of_ble_eq_true rfl) fl_X7_58 rfl (dq 28 rfl) ?_
      obtain rfl := Option.some.inj h
      exact a_iret K rfl rfl (dq 29 rfl) (Nat.le_of_ble_eq_true rfl) (Nat.le_of_ble_eq_true rfl) rfl rfl
    · have h := ite_f c3 h
      refine a_iconst K (dq 9 rfl) (v := 0) rfl ?_
      obtain rfl := Option.some.inj h
      exact a_iret K rfl rfl (dq 10 rfl) (Nat.le_of_ble_eq_true rfl) (Nat.le_of_ble_eq_true rfl) rfl rfl
  · have h := ite_t c1 h
    refine a_iconst K (dq 4 rfl) (v := 1) rfl ?_
    refine a_goto K (tgt := 13) (dq 5 rfl) rfl ?_
    obtain ⟨r5, h5, h⟩ := bnd h
    refine a_callVi K (s_X7_fails S 1  σ r5 h5) v_20 rfl rfl cw_X7_fails ml_X7_146 (by decide) rfl (rest := []) rfl (Nat.le_of_ble_eq_true rfl) (dq 7 rfl) (by decide) ?_
    refine a_if_eq K (tgt := 21) (dq 8 rfl) rfl (fun c6 => ?_) (fun c6 => ?_)
    · have h := ite_t c6 h
      refine a_aload_n K (dq 11 rfl) rfl rfl ?_
      refine a_dup K (dq 12 rfl) rfl ?_
      refine a_get K (T := 20) (i := 0) (k := 5) (v := .int (gI r5.2 20 0 5)) v_20 rfl rfl in_X7 (Nat.le_of_ble_eq_true rfl) fl_X7_58 rfl (dq 13 rfl) ?_
      refine a_iconst K (dq 14 rfl) (v := 1) rfl ?_
      refine a_isub K (dq 15 rfl) ?_
      refine a_put K (T := 20) (i := 0) (k := 5) v_20 rfl rfl in_X7 tyX7 tyX7_ok nmX7 (Nat.le_of_ble_eq_true rfl) fl_X7_58 rfl rfl (tyX7_ok 5 (by decide)) rfl rfl (dq 16 rfl) ?_
      refine a_aload_n K (dq 17 rfl) rfl rfl ?_
      refine a_get K (T := 20) (i := 0) (k := 1) (v := .ref (ρ 22 0)) v_20 rfl rfl in_X7 (Nat.le_of_ble_eq_true rfl) fl_X7_13 rfl (dq 18 rfl) ?_
      refine a_bipush K (dq 19 rfl) (v := 44) rfl ?_
      refine a_aload_n K (dq 20 rfl) rfl rfl ?_
      refine a_get K (T := 20) (i := 0) (k := 5) (v := .int (gI (sI r5.2 20 0 5 ((gI r5.2 20 0 5) - 1)) 20 0 5)) v_20 rfl rfl in_X7 (Nat.le_of_ble_eq_true rfl) fl_X7_58 rfl (dq 21 rfl) ?_
      refine a_imul K (dq 22 rfl) ?_
      refine a_aload_n K (dq 23 rfl) rfl rfl ?_
      refine a_get K (T := 20) (i := 0) (k := 0) (v := .ref (ρ 21 0)) v_20 rfl rfl in_X7 (Nat.le_of_ble_eq_true rfl) fl_X7_7 rfl (dq 24 rfl) ?_
      refine a_iconst K (dq 25 rfl) (v := 0) rfl ?_
      obtain ⟨r7, h7, h⟩ := bnd h
      refine a_callSv K (s_X7_copies S 22 (44 * (gI (sI r5.2 20 0 5 ((gI r5.2 20 0 5) - 1)) 20 0 5)) 21 0 v_22 rfl rfl v_21 rfl rfl (sI r5.2 20 0 5 ((gI r5.2 20 0 5) - 1)) r7 h7) cw_X7_copies ml_X7_61 (by decide) rfl (rest := []) rfl (Nat.le_of_ble_eq_true rfl) (dq 26 rfl) (by decide) ?_
      refine a_aload_n K (dq 27 rfl) rfl rfl ?_
      refine a_get K (T := 20) (i := 0) (k := 5) (v := .int (gI r7 20 0 5)) v_20 rfl rfl in_X7 (Nat.le_of_ble_eq_true rfl) fl_X7_58 rfl (dq 28 rfl) ?_
      obtain rfl := Option.some.inj h
      exact a_iret K rfl rfl (dq 29 rfl) (Nat.le_of_ble_eq_true rfl) (Nat.le_of_ble_eq_true rfl) rfl rfl
    · have h := ite_f c6 h
      refine a_iconst K (dq 9 rfl) (v := 0) rfl ?_
      obtain rfl := Option.some.inj h
      exact a_iret K rfl rfl (dq 10 rfl) (Nat.le_of_ble_eq_true rfl) (Nat.le_of_ble_eq_true rfl) rfl rfl
def t_X7_save : List (Nat × Instr × Nat) := [(0, .aload_n 0, 1), (1, .iconst 0, 1), (2, .putfield 39, 3), (5, .aload_n 0, 1), (6, .iconst 1, 1), (7, .putfield 254, 3), (10, .aload_n 0, 1), (11, .getfield 7, 3), (14, .iconst 0, 1), (15, .aload_n 0, 1), (16, .getfield 16, 3), (19, .iconst 0, 1), (20, .invokestatic 61, 3), (23, .aload_n 0, 1), (24, .getfield 7, 3), (27, .iconst 0, 1), (28, .iaload, 1), (29, .ireturn, 1)]
theorem dt_X7_save : tblOK cX7_save t_X7_save = true := by decide +kernel
def p_X7_save  (σ : Sg) : Option (Int32 × Sg) :=
  (p_X7_copies 21 0 23 0 (sI (sI σ 20 0 8 0) 20 0 4 1)).bind fun r1 => some ((gA r1 21 0 0), r1)
set_option maxRecDepth 20000 in
set_option maxHeartbeats 1000000 in
theorem s_X7_save {l : Launch} {D : va_G} {ty : Nat → ClassId} {ρ : Nat → Nat → Nat} {N0 : Nat} (S : St l ty ρ N0)   (σ : Sg) (r : (Int32 × Sg)) (h : p_X7_save  σ = some r) : AMet l D ty ρ N0 yX7_save (Cond.code yX7_save cX7_save 1 (some .int) :: GW) (rmk 2 0 0) [.ref (ρ 20 0)] σ (oI r.1) r.2 := by
  refine am_enter S (by decide) rfl rfl (Nat.le_of_ble_eq_true rfl) ?_
  intro p e s m args below meth c K hX
  have dq := @tat _ _ dt_X7_save
  unfold p_X7_save at h
  show WA p l e _ s m args below meth c D ty ρ N0 1 _ 0 [some (.ref (ρ 20 0))] [] σ 0 0
  refine a_aload_n K (dq 0 rfl) rfl rfl ?_
  refine a_iconst K (dq 1 rfl) (v := 0) rfl ?_
  refine a_put K (T := 20) (i := 0) (k := 8) v_20 rfl rfl in_X7 tyX7 tyX7_ok nmX7 (Nat.le_of_ble_eq_true rfl) fl_X7_39 rfl rfl (tyX7_ok 8 (by decide)) rfl rfl (dq 2 rfl) ?_
  refine a_aload_n K (dq 3 rfl) rfl rfl ?_
  refine a_iconst K (dq 4 rfl) (v := 1) rfl ?_
  refine a_put K (T := 20) (i := 0) (k := 4) v_20 rfl rfl in_X7 tyX7 tyX7_ok nmX7 (Nat.le_of_ble_eq_true rfl) fl_X7_254 rfl rfl (tyX7_ok 4 (by decide)) rfl rfl (dq 5 rfl) ?_
  refine a_aload_n K (dq 6 rfl) rfl rfl ?_
  refine a_get K (T := 20) (i := 0) (k := 0) (v := .ref (ρ 21 0)) v_20 rfl rfl in_X7 (Nat.le_of_ble_eq_true rfl) fl_X7_7 rfl (dq 7 rfl) ?_
  refine a_iconst K (dq 8 rfl) (v := 0) rfl ?_
  refine a_aload_n K (dq 9 rfl) rfl rfl ?_
  refine a_get K (T := 20) (i := 0) (k := 2) (v := .ref (ρ 23 0)) v_20 rfl rfl in_X7 (Nat.le_of_ble_eq_true rfl) fl_X7_16 rfl (dq 10 rfl) ?_
  refine a_iconst K (dq 11 rfl) (v := 0) rfl ?_
  obtain ⟨r1, h1, h⟩ := bnd h
  refine a_callSv K (s_X7_copies S 21 0 23 0 v_21 rfl rfl v_23 rfl rfl (sI (sI σ 20 0 8 0) 20 0 4 1) r1 h1) cw_X7_copies ml_X7_61 (by decide) rfl (rest := []) rfl (Nat.le_of_ble_eq_true rfl) (dq 12 rfl) (by decide) ?_
  refine a_aload_n K (dq 13 rfl) rfl rfl ?_
  refine a_get K (T := 20) (i := 0) (k := 0) (v := .ref (ρ 21 0)) v_20 rfl rfl in_X7 (Nat.le_of_ble_eq_true rfl) fl_X7_7 rfl (dq 14 rfl) ?_
  refine a_iconst K (dq 15 rfl) (v := 0) rfl ?_
  refine a_ialdK K (T := 21) (i := 0) (nj := 0) v_21 rfl rfl (ib_in rfl) rfl (dq 16 rfl) ?_
  obtain rfl := Option.some.inj h
  exact a_iret K rfl rfl (dq 17 rfl) (Nat.le_of_ble_eq_true rfl) (Nat.le_of_ble_eq_true rfl) rfl rfl
def t_X7_restore : List (Nat × Instr × Nat) := [(0, .aload_n 0, 1), (1, .aload_n 0, 1), (2, .getfield 254, 3), (5, .ifCond .eq 7, 3), (8, .iconst 0, 1), (9, .goto 4, 3), (12, .iconst 1, 1), (13, .invokevirtual 146, 3), (16, .ifCond .eq 5, 3), (19, .iconst 0, 1), (20, .ireturn, 1), (21, .aload_n 0, 1), (22, .getfield 16, 3), (25, .iconst 0, 1), (26, .aload_n 0, 1), (27, .getfield 7, 3), (30, .iconst 0, 1), (31, .invokestatic 61, 3), (34, .aload_n 0, 1), (35, .iconst 0, 1), (36, .putfield 58, 3), (39, .aload_n 0, 1), (40, .getfield 7, 3), (43, .iconst 0, 1), (44, .iaload, 1), (45, .ireturn, 1)]
theorem dt_X7_restore : tblOK cX7_restore t_X7_restore = true := by decide +kernel
def p_X7_restore  (σ : Sg) : Option (Int32 × Sg) :=
  if (gI σ 20 0 4) = 0 then ((p_X7_fails 1 σ).bind fun r2 => if r2.1 = 0 then ((p_X7_copies 23 0 21 0 r2.2).bind fun r4 => some ((gA (sI r4 20 0 5 0) 21 0 0), sI r4 20 0 5 0)) else (some (0, r2.2))) else ((p_X7_fails 0 σ).bind fun r5 => if r5.1 = 0 then ((p_X7_copies 23 0 21 0 r5.2).bind fun r7 => some ((gA (sI r7 20 0 5 0) 21 0 0), sI r7 20 0 5 0)) else (some (0, r5.2)))
set_option maxRecDepth 20000 in
set_option maxHeartbeats 1000000 in
theorem s_X7_restore {l : Launch} {D : va_G} {ty : Nat → ClassId} {ρ : Nat → Nat → Nat} {N0 : Nat} (S : St l ty ρ N0)   (σ : Sg) (r : (Int32 × Sg)) (h : p_X7_restore  σ = some r) : AMet l D ty ρ N0 yX7_restore (Cond.code yX7_restore cX7_restore 1 (some .int) :: GW) (rmk 2 0 0) [.ref (ρ 20 0)] σ (oI r.1) r.2 := by
  refine am_enter S (by decide) rfl rfl (Nat.le_of_ble_eq_true rfl) ?_
  intro p e s m args below meth c K hX
  have dq := @tat _ _ dt_X7_restore
  unfold p_X7_restore at h
  show WA p l e _ s m args below meth c D ty ρ N0 1 _ 0 [some (.ref (ρ 20 0))] [] σ 0 0
  refine a_aload_n K (dq 0 rfl) rfl rfl ?_
  refine a_aload_n K (dq 1 rfl) rfl rfl ?_
  refine a_get K (T := 20) (i := 0) (k := 4) (v := .int (gI σ 20 0 4)) v_20 rfl rfl in_X7 (Nat.le_of_ble_eq_true rfl) fl_X7_254 rfl (dq 2 rfl) ?_
  refine a_if_eq K (tgt := 12) (dq 3 rfl) rfl (fun c1 => ?_) (fun c1 => ?_)
  · have h := ite_t c1 h
    refine a_iconst K (dq 6 rfl) (v := 1) rfl ?_
    obtain ⟨r2, h2, h⟩ := bnd h
    refine a_callVi K (s_X7_fails S 1  σ r2 h2) v_20 rfl rfl cw_X7_fails ml_X7_146 (by decide) rfl (rest := []) rfl (Nat.le_of_ble_eq_true rfl) (dq 7 rfl) (by decide) ?_
    refine a_if_eq K (tgt := 21) (dq 8 rfl) rfl (fun c3 => ?_) (fun c3 => ?_)
    · have h := ite_t c3 h
      refine a_aload_n K (dq 11 rfl) rfl rfl ?_
      refine a_get K (T := 20) (i := 0) (k := 2) (v := .ref (ρ 23 0)) v_20 rfl rfl in_X7 (Nat.le_of_ble_eq_true rfl) fl_X7_16 rfl (dq 12 rfl) ?_
      refine a_iconst K (dq 13 rfl) (v := 0) rfl ?_
      refine a_aload_n K (dq 14 rfl) rfl rfl ?_
      refine a_get K (T := 20) (i := 0) (k := 0) (v := .ref (ρ 21 0)) v_20 rfl rfl in_X7 (Nat.le_of_ble_eq_true rfl) fl_X7_7 rfl (dq 15 rfl) ?_
      refine a_iconst K (dq 16 rfl) (v := 0) rfl ?_
      obtain ⟨r4, h4, h⟩ := bnd h
      refine a_callSv K (s_X7_copies S 23 0 21 0 v_23 rfl rfl v_21 rfl rfl r2.2 r4 h4) cw_X7_copies ml_X7_61 (by decide) rfl (rest := []) rfl (Nat.le_of_ble_eq_true rfl) (dq 17 rfl) (by decide) ?_
      refine a_aload_n K (dq 18 rfl) rfl rfl ?_
      refine a_iconst K (dq 19 rfl) (v := 0) rfl ?_
      refine a_put K (T := 20) (i := 0) (k := 5) v_20 rfl rfl in_X7 tyX7 tyX7_ok nmX7 (Nat.le_of_ble_eq_true rfl) fl_X7_58 rfl rfl (tyX7_ok 5 (by decide)) rfl rfl (dq 20 rfl) ?_
      refine a_aload_n K (dq 21 rfl) rfl rfl ?_
      refine a_get K (T := 20) (i := 0) (k := 0) (v := .ref (ρ 21 0)) v_20 rfl rfl in_X7 (Nat.le_of_ble_eq_true rfl) fl_X7_7 rfl (dq 22 rfl) ?_
      refine a_iconst K (dq 23 rfl) (v := 0) rfl ?_
      refine a_ialdK K (T := 21) (i := 0) (nj := 0) v_21 rfl rfl (ib_in rfl) rfl (dq 24 rfl) ?_
      obtain rfl := Option.some.inj h
      exact a_iret K rfl rfl (dq 25 rfl) (Nat.le_of_ble_eq_true rfl) (Nat.le_of_ble_eq_true rfl) rfl rfl
    · have h := ite_f c3 h
      refine a_iconst K (dq 9 rfl) (v := 0) rfl ?_
      obtain rfl := Option.some.inj h
      exact a_iret K rfl rfl (dq 10 rfl) (Nat.le_of_ble_eq_true rfl) (Nat.le_of_ble_eq_true rfl) rfl rfl
  · have h := ite_f c1 h
    refine a_iconst K (dq 4 rfl) (v := 0) rfl ?_
    refine a_goto K (tgt := 13) (dq 5 rfl) rfl ?_
    obtain ⟨r5, h5, h⟩ := bnd h
    refine a_callVi K (s_X7_fails S 0  σ r5 h5) v_20 rfl rfl cw_X7_fails ml_X7_146 (by decide) rfl (rest := []) rfl (Nat.le_of_ble_eq_true rfl) (dq 7 rfl) (by decide) ?_
    refine a_if_eq K (tgt := 21) (dq 8 rfl) rfl (fun c6 => ?_) (fun c6 => ?_)
    · have h := ite_t c6 h
      refine a_aload_n K (dq 11 rfl) rfl rfl ?_
      refine a_get K (T := 20) (i := 0) (k := 2) (v := .ref (ρ 23 0)) v_20 rfl rfl in_X7 (Nat.le_of_ble_eq_true rfl) fl_X7_16 rfl (dq 12 rfl) ?_
      refine a_iconst K (dq 13 rfl) (v := 0) rfl ?_
      refine a_aload_n K (dq 14 rfl) rfl rfl ?_
      refine a_get K (T := 20) (i := 0) (k := 0) (v := .ref (ρ 21 0)) v_20 rfl rfl in_X7 (Nat.le_of_ble_eq_true rfl) fl_X7_7 rfl (dq 15 rfl) ?_
      refine a_iconst K (dq 16 rfl) (v := 0) rfl ?_
      obtain ⟨r7, h7, h⟩ := bnd h
      refine a_callSv K (s_X7_copies S 23 0 21 0 v_23 rfl rfl v_21 rfl rfl r5.2 r7 h7) cw_X7_copies ml_X7_61 (by decide) rfl (rest := []) rfl (Nat.le_of_ble_eq_true rfl) (dq 17 rfl) (by decide) ?_
      refine a_aload_n K (dq 18 rfl) rfl rfl ?_
      refine a_iconst K (dq 19 rfl) (v := 0) rfl ?_
      refine a_put K (T := 20) (i := 0) (k := 5) v_20 rfl rfl in_X7 tyX7 tyX7_ok nmX7 (Nat.le_of_ble_eq_true rfl) fl_X7_58 rfl rfl (tyX7_ok 5 (by decide)) rfl rfl (dq 20 rfl) ?_
      refine a_aload_n K (dq 21 rfl) rfl rfl ?_
      refine a_get K (T := 20) (i := 0) (k := 0) (v := .ref (ρ 21 0)) v_20 rfl rfl in_X7 (Nat.le_of_ble_eq_true rfl) fl_X7_7 rfl (dq 22 rfl) ?_
      refine a_iconst K (dq 23 rfl) (v := 0) rfl ?_
      refine a_ialdK K (T := 21) (i := 0) (nj := 0) v_21 rfl rfl (ib_in rfl) rfl (dq 24 rfl) ?_
      obtain rfl := Option.some.inj h
      exact a_iret K rfl rfl (dq 25 rfl) (Nat.le_of_ble_eq_true rfl) (Nat.le_of_ble_eq_true rfl) rfl rfl
    · have h := ite_f c6 h
      refine a_iconst K (dq 9 rfl) (v := 0) rfl ?_
      obtain rfl := Option.some.inj h
      exact a_iret K rfl rfl (dq 10 rfl) (Nat.le_of_ble_eq_true rfl) (Nat.le_of_ble_eq_true rfl) rfl rfl
def t_X7_keeps : List (Nat × Instr × Nat) := [(0, .aload_n 0, 1), (1, .iconst 0, 1), (2, .putfield 39, 3), (5, .aload_n 0, 1), (6, .getfield 48, 3), (9, .ifCond .eq 4, 3), (12, .return_, 1), (13, .aload_n 0, 1), (14, .getfield 58, 3), (17, .bipush 8, 2), (19, .if_icmp .ne 43, 3), (22, .iconst 0, 1), (23, .istore_n 2, 1), (24, .iload_n 2, 1), (25, .sipush 308, 3), (28, .if_icmp .ge 24, 3), (31, .aload_n 0, 1), (32, .getfield 13, 3), (35, .iload_n 2, 1), (36, .aload_n 0, 1), (37, .getfield 13, 3), (40, .iload_n 2, 1), (41, .bipush 44, 2), (43, .iadd, 1), (44, .iaload, 1), (45, .iastore, 1), (46, .iinc 2 1, 3), (49, .goto (-25), 3), (52, .aload_n 0, 1), (53, .dup, 1), (54, .getfield 58, 3), (57, .iconst 1, 1), (58, .isub, 1), (59, .putfield 58, 3), (62, .aload_n 1, 1), (63, .iconst 0, 1), (64, .aload_n 0, 1), (65, .getfield 13, 3), (68, .bipush 44, 2), (70, .aload_n 0, 1), (71, .getfield 58, 3), (74, .imul, 1), (75, .invokestatic 61, 3), (78, .aload_n 0, 1), (79, .dup, 1), (80, .getfield 58, 3), (83, .iconst 1, 1), (84, .iadd, 1), (85, .putfield 58, 3), (88, .return_, 1)]
theorem dt_X7_keeps : tblOK cX7_keeps t_X7_keeps = true := by decide +kernel
def p_X7_keeps_L24 (t : Nat) : Nat → Int32 → Sg → Option Sg
  | 0, _, _ => none
  | n + 1, v2, σ => if 308 ≤ v2 then ((p_X7_copies t 0 22 (44 * (gI (sI σ 20 0 5 ((gI σ 20 0 5) - 1)) 20 0 5)) (sI σ 20 0 5 ((gI σ 20 0 5) - 1))).bind fun r5 => some (sI r5 20 0 5 ((gI r5 20 0 5) + 1))) else (if ib (v2 + 44) 352 then (if ib v2 352 then (p_X7_keeps_L24 t n (v2 + 1) (sA σ 22 0 v2.toNatClampNeg (gA σ 22 0 (v2 + 44).toNatClampNeg))) else none) else none)
def p_X7_keeps (t : Nat) (σ : Sg) : Option Sg :=
  if (gI (sI σ 20 0 8 0) 20 0 6) = 0 then (if (gI (sI σ 20 0 8 0) 20 0 5) = 8 then (p_X7_keeps_L24 t 400 0 (sI σ 20 0 8 0)) else ((p_X7_copies t 0 22 (44 * (gI (sI σ 20 0 8 0) 20 0 5)) (sI σ 20 0 8 0)).bind fun r3 => some (sI r3 20 0 5 ((gI r3 20 0 5) + 1)))) else (some (sI σ 20 0 8 0))
set_option maxRecDepth 20000 in
set_option maxHeartbeats 1000000 in
theorem s_X7_keeps_L24 {l : Launch} {D : va_G} {ty : Nat → ClassId} {ρ : Nat → Nat → Nat} {N0 : Nat} (S : St l ty ρ N0) (t : Nat) (hvt : Vld t 0) (hdt : dsc t = none) (hkt : akind t = 0) : ∀ (n : Nat) (v2 : Int32) (σ : Sg) (r : Sg) (h : p_X7_keeps_L24 t n v2 σ = some r) {p : Program} {e : Env} {s : State} {m : MethodId} {args : Array Value} {below : List Frame} {meth : Method} {c : Code} (K : Cx p l s m args meth c cX7_keeps 3 RX7 none D ty ρ N0) (hX : ∀ x ∈ c.exceptionTable.toList, False), WA p l e (rmk 2 0 0) s m args below meth c D ty ρ N0 3 (vx_MQ below (oQ D ty ρ N0 (.inl none) r) (oX D ty ρ N0 (.inl none) r) args s 0 0 (fun q => N0 ≤ q)) 24 [some (.ref (ρ 20 0)), some (.ref (ρ t 0)), some (.int v2)] [] σ 0 0 := by
  intro n
  induction n with
  | zero =>
    intro v2 σ r h
    simp only [p_X7_keeps_L24] at h
    cases h
  | succ n ih =>
    intro v2 σ r h p e s m args below meth c K hX
    have dq := @tat _ _ dt_X7_keeps
    rw [p_X7_keeps_L24] at h
    refine a_iload_n K (dq 13 rfl) rfl rfl ?_
    refine a_sipush K (dq 14 rfl) (v := 308) rfl ?_
    refine a_icmp_ge K (tgt := 52) (dq 15 rfl) rfl (fun c4 => ?_) (fun c4 => ?_)
    · have h := ite_t c4 h
      refine a_aload_n K (dq 28 rfl) rfl rfl ?_
      refine a_dup K (dq 29 rfl) rfl ?_
      refine a_get K (T := 20) (i := 0) (k := 5) (v := .int (gI σ 20 0 5)) v_20 rfl rfl in_X7 (Nat.le_of_ble_eq_true rfl) fl_X7_58 rfl (dq 30 rfl) ?_
      refine a_iconst K (dq 31 rfl) (v := 1) rfl ?_
      refine a_isub K (dq 32 rfl) ?_
      refine a_put K (T := 20) (i := 0) (k := 5) v_20 rfl rfl in_X7 tyX7 tyX7_ok nmX7 (Nat.le_of_ble_eq_true rfl) fl_X7_58 rfl rfl (tyX7_ok 5 (by decide)) rfl rfl (dq 33 rfl) ?_
      refine a_aload_n K (dq 34 rfl) rfl rfl ?_
      refine a_iconst K (dq 35 rfl) (v := 0) rfl ?_
      refine a_aload_n K (dq 36 rfl) rfl rfl ?_
      refine a_get K (T := 20) (i := 0) (k := 1) (v := .ref (ρ 22 0)) v_20 rfl rfl in_X7 (Nat.le_of_ble_eq_true rfl) fl_X7_13 rfl (dq 37 rfl) ?_
      refine a_bipush K (dq 38 rfl) (v := 44) rfl ?_
      refine a_aload_n K (dq 39 rfl) rfl rfl ?_
      refine a_get K (T := 20) (i := 0) (k := 5) (v := .int (gI (sI σ 20 0 5 ((gI σ 20 0 5) - 1)) 20 0 5)) v_20 rfl rfl in_X7 (Nat.le_of_ble_eq_true rfl) fl_X7_58 rfl (dq 40 rfl) ?_
      refine a_imul K (dq 41 rfl) ?_
      obtain ⟨r5, h5, h⟩ := bnd h
      refine a_callSv K (s_X7_copies S t 0 22 (44 * (gI (sI σ 20 0 5 ((gI σ 20 0 5) - 1)) 20 0 5)) hvt hdt hkt v_22 rfl rfl (sI σ 20 0 5 ((gI σ 20 0 5) - 1)) r5 h5) cw_X7_copies ml_X7_61 (by decide) rfl (rest := []) rfl (Nat.le_of_ble_eq_true rfl) (dq 42 rfl) (by decide) ?_
      refine a_aload_n K (dq 43 rfl) rfl rfl ?_
      refine a_dup K (dq 44 rfl) rfl ?_
      refine a_get K (T := 20) (i := 0) (k := 5) (v := .int (gI r5 20 0 5)) v_20 rfl rfl in_X7 (Nat.le_of_ble_eq_true rfl) fl_X7_58 rfl (dq 45 rfl) ?_
      refine a_iconst K (dq 46 rfl) (v := 1) rfl ?_
      refine a_iadd K (dq 47 rfl) ?_
      refine a_put K (T := 20) (i := 0) (k := 5) v_20 rfl rfl in_X7 tyX7 tyX7_ok nmX7 (Nat.le_of_ble_eq_true rfl) fl_X7_58 rfl rfl (tyX7_ok 5 (by decide)) rfl rfl (dq 48 rfl) ?_
      obtain rfl := Option.some.inj h
      exact a_vret K rfl (dq 49 rfl) (Nat.le_of_ble_eq_true rfl) (Nat.le_of_ble_eq_true rfl) rfl rfl
    · have h := ite_f c4 h
      refine a_aload_n K (dq 16 rfl) rfl rfl ?_
      refine a_get K (T := 20) (i := 0) (k := 1) (v := .ref (ρ 22 0)) v_20 rfl rfl in_X7 (Nat.le_of_ble_eq_true rfl) fl_X7_13 rfl (dq 17 rfl) ?_
      refine a_iload_n K (dq 18 rfl) rfl rfl ?_
      refine a_aload_n K (dq 19 rfl) rfl rfl ?_
      refine a_get K (T := 20) (i := 0) (k := 1) (v := .ref (ρ 22 0)) v_20 rfl rfl in_X7 (Nat.le_of_ble_eq_true rfl) fl_X7_13 rfl (dq 20 rfl) ?_
      refine a_iload_n K (dq 21 rfl) rfl rfl ?_
      refine a_bipush K (dq 22 rfl) (v := 44) rfl ?_
      refine a_iadd K (dq 23 rfl) ?_
      obtain ⟨c6, h⟩ := ib_some h
      refine a_iald K (T := 22) (i := 0) v_22 rfl rfl c6 (dq 24 rfl) ?_
      obtain ⟨c7, h⟩ := ib_some h
      refine a_iast K (T := 22) (i := 0) v_22 rfl rfl c7 (dq 25 rfl) ?_
      refine a_iinc K (dq 26 rfl) rfl (v := (v2 + 1)) rfl (Nat.le_of_ble_eq_true rfl) (ls' := [some (.ref (ρ 20 0)), some (.ref (ρ t 0)), some (.int (v2 + 1))]) rfl ?_
      refine a_goto K (tgt := 24) (dq 27 rfl) rfl ?_
      exact ih (v2 + 1) (sA σ 22 0 v2.toNatClampNeg (gA σ 22 0 (v2 + 44).toNatClampNeg)) r h K hX
set_option maxRecDepth 20000 in
set_option maxHeartbeats 1000000 in
theorem s_X7_keeps {l : Launch} {D : va_G} {ty : Nat → ClassId} {ρ : Nat → Nat → Nat} {N0 : Nat} (S : St l ty ρ N0) (t : Nat) (hvt : Vld t 0) (hdt : dsc t = none) (hkt : akind t = 0) (σ : Sg) (r : Sg) (h : p_X7_keeps t σ = some r) : AMet l D ty ρ N0 yX7_keeps (Cond.code yX7_keeps cX7_keeps 3 none :: GW) (rmk 2 0 0) [.ref (ρ 20 0), .ref (ρ t 0)] σ (.inl none) r := by
  refine am_enter S (by decide) rfl rfl (Nat.le_of_ble_eq_true rfl) ?_
  intro p e s m args below meth c K hX
  have dq := @tat _ _ dt_X7_keeps
  unfold p_X7_keeps at h
  show WA p l e _ s m args below meth c D ty ρ N0 3 _ 0 [some (.ref (ρ 20 0)), some (.ref (ρ t 0)), none] [] σ 0 0
  refine a_aload_n K (dq 0 rfl) rfl rfl ?_
  refine a_iconst K (dq 1 rfl) (v := 0) rfl ?_
  refine a_put K (T := 20) (i := 0) (k := 8) v_20 rfl rfl in_X7 tyX7 tyX7_ok nmX7 (Nat.le_of_ble_eq_true rfl) fl_X7_39 rfl rfl (tyX7_ok 8 (by decide)) rfl rfl (dq 2 rfl) ?_
  refine a_aload_n K (dq 3 rfl) rfl rfl ?_
  refine a_get K (T := 20) (i := 0) (k := 6) (v := .int (gI (sI σ 20 0 8 0) 20 0 6)) v_20 rfl rfl in_X7 (Nat.le_of_ble_eq_true rfl) fl_X7_48 rfl (dq 4 rfl) ?_
  refine a_if_eq K (tgt := 13) (dq 5 rfl) rfl (fun c1 => ?_) (fun c1 => ?_)
  · have h := ite_t c1 h
    refine a_aload_n K (dq 7 rfl) rfl rfl ?_
    refine a_get K (T := 20) (i := 0) (k := 5) (v := .int (gI (sI σ 20 0 8 0) 20 0 5)) v_20 rfl rfl in_X7 (Nat.le_of_ble_eq_true rfl) fl_X7_58 rfl (dq 8 rfl) ?_
    refine a_bipush K (dq 9 rfl) (v := 8) rfl ?_
    refine a_icmp_ne K (tgt := 62) (dq 10 rfl) rfl (fun c2 => ?_) (fun c2 => ?_)
    · have h := ite_f c2 h
      refine a_aload_n K (dq 34 rfl) rfl rfl ?_
      refine a_iconst K (dq 35 rfl) (v := 0) rfl ?_
      refine a_aload_n K (dq 36 rfl) rfl rfl ?_
      refine a_get K (T := 20) (i := 0) (k := 1) (v := .ref (ρ 22 0)) v_20 rfl rfl in_X7 (Nat.le_of_ble_eq_true rfl) fl_X7_13 rfl (dq 37 rfl) ?_
      refine a_bipush K (dq 38 rfl) (v := 44) rfl ?_
      refine a_aload_n K (dq 39 rfl) rfl rfl ?_
      refine a_get K (T := 20) (i := 0) (k := 5) (v := .int (gI (sI σ 20 0 8 0) 20 0 5)) v_20 rfl rfl in_X7 (Nat.le_of_ble_eq_true rfl) fl_X7_58 rfl (dq 40 rfl) ?_
      refine a_imul K (dq 41 rfl) ?_
      obtain ⟨r3, h3, h⟩ := bnd h
      refine a_callSv K (s_X7_copies S t 0 22 (44 * (gI (sI σ 20 0 8 0) 20 0 5)) hvt hdt hkt v_22 rfl rfl (sI σ 20 0 8 0) r3 h3) cw_X7_copies ml_X7_61 (by decide) rfl (rest := []) rfl (Nat.le_of_ble_eq_true rfl) (dq 42 rfl) (by decide) ?_
      refine a_aload_n K (dq 43 rfl) rfl rfl ?_
      refine a_dup K (dq 44 rfl) rfl ?_
      refine a_get K (T := 20) (i := 0) (k := 5) (v := .int (gI r3 20 0 5)) v_20 rfl rfl in_X7 (Nat.le_of_ble_eq_true rfl) fl_X7_58 rfl (dq 45 rfl) ?_
      refine a_iconst K (dq 46 rfl) (v := 1) rfl ?_
      refine a_iadd K (dq 47 rfl) ?_
      refine a_put K (T := 20) (i := 0) (k := 5) v_20 rfl rfl in_X7 tyX7 tyX7_ok nmX7 (Nat.le_of_ble_eq_true rfl) fl_X7_58 rfl rfl (tyX7_ok 5 (by decide)) rfl rfl (dq 48 rfl) ?_
      obtain rfl := Option.some.inj h
      exact a_vret K rfl (dq 49 rfl) (Nat.le_of_ble_eq_true rfl) (Nat.le_of_ble_eq_true rfl) rfl rfl
    · have h := ite_t c2 h
      refine a_iconst K (dq 11 rfl) (v := 0) rfl ?_
      refine a_istore_n K (dq 12 rfl) rfl (Nat.le_of_ble_eq_true rfl) (ls' := [some (.ref (ρ 20 0)), some (.ref (ρ t 0)), some (.int 0)]) rfl ?_
      exact s_X7_keeps_L24 S t hvt hdt hkt   400 0 (sI σ 20 0 8 0) r h K hX
  · have h := ite_f c1 h
    obtain rfl := Option.some.inj h
    exact a_vret K rfl (dq 6 rfl) (Nat.le_of_ble_eq_true rfl) (Nat.le_of_ble_eq_true rfl) rfl rfl
def t_X7_areFarms : List (Nat × Instr × Nat) := [(0, .aload_n 0, 1), (1, .iload_n 1, 1), (2, .invokevirtual 103, 3), (5, .ifCond .eq 15, 3), (8, .aload_n 0, 1), (9, .iload_n 2, 1), (10, .invokevirtual 103, 3), (13, .ifCond .eq 7, 3), (16, .iconst 1, 1), (17, .goto 4, 3), (20, .iconst 0, 1), (21, .ireturn, 1)]
theorem dt_X7_areFarms : tblOK cX7_areFarms t_X7_areFarms = true := by decide +kernel
def p_X7_areFarms (a1 : Int32) (a2 : Int32) (σ : Sg) : Option Int32 :=
  (p_X7_isFarm a1 σ).bind fun r1 => if r1 = 0 then (some 0) else ((p_X7_isFarm a2 σ).bind fun r3 => if r3 = 0 then (some 0) else (some 1))
set_option maxRecDepth 20000 in
set_option maxHeartbeats 1000000 in
theorem s_X7_areFarms {l : Launch} {D : va_G} {ty : Nat → ClassId} {ρ : Nat → Nat → Nat} {N0 : Nat} (S : St l ty ρ N0) (a1 : Int32) (a2 : Int32)  (σ : Sg) (r : Int32) (h : p_X7_areFarms a1 a2 σ = some r) : AMet l D ty ρ N0 yX7_areFarms (Cond.code yX7_areFarms cX7_areFarms 3 (some .boolean) :: GW) (rmk 3 0 0) [.ref (ρ 20 0), .int a1, .int a2] σ (oI r) σ := by
  refine am_enter S (by decide) rfl rfl (Nat.le_of_ble_eq_true rfl) ?_
  intro p e s m args below meth c K hX
  have dq := @tat _ _ dt_X7_areFarms
  unfold p_X7_areFarms at h
  show WA p l e _ s m args below meth c D ty ρ N0 3 _ 0 [some (.ref (ρ 20 0)), some (.int a1), some (.int a2)] [] σ 0 0
  refine a_aload_n K (dq 0 rfl) rfl rfl ?_
  refine a_iload_n K (dq 1 rfl) rfl rfl ?_
  obtain ⟨r1, h1, h⟩ := bnd h
  refine a_callVi K (s_X7_isFarm S a1  σ r1 h1) v_20 rfl rfl cw_X7_isFarm ml_X7_103 (by decide) rfl (rest := []) rfl (Nat.le_of_ble_eq_true rfl) (dq 2 rfl) (by decide) ?_
  refine a_if_eq K (tgt := 20) (dq 3 rfl) rfl (fun c2 => ?_) (fun c2 => ?_)
  · have h := ite_t c2 h
    refine a_iconst K (dq 10 rfl) (v := 0) rfl ?_
    obtain rfl := Option.some.inj h
    exact a_iret K rfl rfl (dq 11 rfl) (Nat.le_of_ble_eq_true rfl) (Nat.le_of_ble_eq_true rfl) rfl rfl
  · have h := ite_f c2 h
    refine a_aload_n K (dq 4 rfl) rfl rfl ?_
    refine a_iload_n K (dq 5 rfl) rfl rfl ?_
    obtain ⟨r3, h3, h⟩ := bnd h
    refine a_callVi K (s_X7_isFarm S a2  σ r3 h3) v_20 rfl rfl cw_X7_isFarm ml_X7_103 (by decide) rfl (rest := []) rfl (Nat.le_of_ble_eq_true rfl) (dq 6 rfl) (by decide) ?_
    refine a_if_eq K (tgt := 20) (dq 7 rfl) rfl (fun c4 => ?_) (fun c4 => ?_)
    · have h := ite_t c4 h
      refine a_iconst K (dq 10 rfl) (v := 0) rfl ?_
      obtain rfl := Option.some.inj h
      exact a_iret K rfl rfl (dq 11 rfl) (Nat.le_of_ble_eq_true rfl) (Nat.le_of_ble_eq_true rfl) rfl rfl
    · have h := ite_f c4 h
      refine a_iconst K (dq 8 rfl) (v := 1) rfl ?_
      refine a_goto K (tgt := 21) (dq 9 rfl) rfl ?_
      obtain rfl := Option.some.inj h
      exact a_iret K rfl rfl (dq 11 rfl) (Nat.le_of_ble_eq_true rfl) (Nat.le_of_ble_eq_true rfl) rfl rfl
def t_X7_rootOf : List (Nat × Instr × Nat) := [(0, .iload_n 1, 1), (1, .istore_n 2, 1), (2, .aload_n 0, 1), (3, .iload_n 2, 1), (4, .invokevirtual 69, 3), (7, .ifCond .lt 12, 3), (10, .aload_n 0, 1), (11, .iload_n 2, 1), (12, .invokevirtual 69, 3), (15, .istore_n 2, 1), (16, .goto (-14), 3), (19, .iload_n 2, 1), (20, .ireturn, 1)]
theorem dt_X7_rootOf : tblOK cX7_rootOf t_X7_rootOf = true := by decide +kernel
def p_X7_rootOf_L2  (σ : Sg) : Nat → Int32 → Option Int32
  | 0, _ => none
  | n + 1, v2 => (p_X7_parent v2 σ).bind fun r1 => if r1 < 0 then (some v2) else ((p_X7_parent v2 σ).bind fun r3 => p_X7_rootOf_L2 σ n r3)
def p_X7_rootOf (a1 : Int32) (σ : Sg) : Option Int32 :=
  p_X7_rootOf_L2 σ 400 a1
set_option maxRecDepth 20000 in
set_option maxHeartbeats 1000000 in
theorem s_X7_rootOf_L2 {l : Launch} {D : va_G} {ty : Nat → ClassId} {ρ : Nat → Nat → Nat} {N0 : Nat} (S : St l ty ρ N0)   (σ : Sg) : ∀ (n : Nat) (v2 : Int32) (r : Int32) (h : p_X7_rootOf_L2  σ n v2 = some r) {p : Program} {e : Env} {s : State} {m : MethodId} {args : Array Value} {below : List Frame} {meth : Method} {c : Code} (K : Cx p l s m args meth c cX7_rootOf 3 RX7 (some .int) D ty ρ N0) (hX : ∀ x ∈ c.exceptionTable.toList, False), WA p l e (rmk 2 0 0) s m args below meth c D ty ρ N0 3 (vx_MQ below (oQ D ty ρ N0 (oI r) σ) (oX D ty ρ N0 (oI r) σ) args s 0 0 (fun q => N0 ≤ q)) 2 [some (.ref (ρ 20 0)), none, some (.int v2)] [] σ 0 0 := by
  intro n
  induction n with
  | zero =>
    intro v2 r h
    simp only [p_X7_rootOf_L2] at h
    cases h
  | succ n ih =>
    intro v2 r h p e s m args below meth c K hX
    have dq := @tat _ _ dt_X7_rootOf
    rw [p_X7_rootOf_L2] at h
    refine a_aload_n K (dq 2 rfl) rfl rfl ?_
    refine a_iload_n K (dq 3 rfl) rfl rfl ?_
    obtain ⟨r1, h1, h⟩ := bnd h
    refine a_callVi K (s_X7_parent S v2  σ r1 h1) v_20 rfl rfl cw_X7_parent ml_X7_69 (by decide) rfl (rest := []) rfl (Nat.le_of_ble_eq_true rfl) (dq 4 rfl) (by decide) ?_
    refine a_if_lt K (tgt := 19) (dq 5 rfl) rfl (fun c2 => ?_) (fun c2 => ?_)
    · have h := ite_t c2 h
      refine a_iload_n K (dq 11 rfl) rfl rfl ?_
      obtain rfl := Option.some.inj h
      exact a_iret K rfl rfl (dq 12 rfl) (Nat.le_of_ble_eq_true rfl) (Nat.le_of_ble_eq_true rfl) rfl rfl
    · have h := ite_f c2 h
      refine a_aload_n K (dq 6 rfl) rfl rfl ?_
      refine a_iload_n K (dq 7 rfl) rfl rfl ?_
      obtain ⟨r3, h3, h⟩ := bnd h
      refine a_callVi K (s_X7_parent S v2  σ r3 h3) v_20 rfl rfl cw_X7_parent ml_X7_69 (by decide) rfl (rest := []) rfl (Nat.le_of_ble_eq_true rfl) (dq 8 rfl) (by decide) ?_
      refine a_istore_n K (dq 9 rfl) rfl (Nat.le_of_ble_eq_true rfl) (ls' := [some (.ref (ρ 20 0)), none, some (.int r3)]) rfl ?_
      refine a_goto K (tgt := 2) (dq 10 rfl) rfl ?_
      exact ih r3 r h K hX
set_option maxRecDepth 20000 in
set_option maxHeartbeats 1000000 in
theorem s_X7_rootOf {l : Launch} {D : va_G} {ty : Nat → ClassId} {ρ : Nat → Nat → Nat} {N0 : Nat} (S : St l ty ρ N0) (a1 : Int32)  (σ : Sg) (r : Int32) (h : p_X7_rootOf a1 σ = some r) : AMet l D ty ρ N0 yX7_rootOf (Cond.code yX7_rootOf cX7_rootOf 3 (some .int) :: GW) (rmk 2 0 0) [.ref (ρ 20 0), .int a1] σ (oI r) σ := by
  refine am_enter S (by decide) rfl rfl (Nat.le_of_ble_eq_true rfl) ?_
  intro p e s m args below meth c K hX
  have dq := @tat _ _ dt_X7_rootOf
  unfold p_X7_rootOf at h
  show WA p l e _ s m args below meth c D ty ρ N0 3 _ 0 [some (.ref (ρ 20 0)), some (.int a1), none] [] σ 0 0
  refine a_iload_n K (dq 0 rfl) rfl rfl ?_
  refine a_istore_n K (dq 1 rfl) rfl (Nat.le_of_ble_eq_true rfl) (ls' := [some (.ref (ρ 20 0)), some (.int a1), some (.int a1)]) rfl ?_
  refine a_le2 (ls' := [some (.ref (ρ 20 0)), none, some (.int a1)]) ⟨rfl, rfl, trivial⟩ ?_
  exact s_X7_rootOf_L2 S   σ 400 a1 r h K hX
def t_X7_meetOf : List (Nat × Instr × Nat) := [(0, .iload_n 1, 1), (1, .istore_n 3, 1), (2, .aload_n 0, 1), (3, .iload_n 2, 1), (4, .iload_n 3, 1), (5, .invokevirtual 80, 3), (8, .ifCond .ne 12, 3), (11, .aload_n 0, 1), (12, .iload_n 3, 1), (13, .invokevirtual 69, 3), (16, .istore_n 3, 1), (17, .goto (-15), 3), (20, .iload_n 3, 1), (21, .ireturn, 1)]
theorem dt_X7_meetOf : tblOK cX7_meetOf t_X7_meetOf = true := by decide +kernel
def p_X7_meetOf_L2  (σ : Sg) : Nat → Int32 → Int32 → Option Int32
  | 0, _, _ => none
  | n + 1, v2, v3 => (p_X7_liesBehind v2 v3 σ).bind fun r1 => if r1 = 0 then ((p_X7_parent v3 σ).bind fun r3 => p_X7_meetOf_L2 σ n v2 r3) else (some v3)
def p_X7_meetOf (a1 : Int32) (a2 : Int32) (σ : Sg) : Option Int32 :=
  p_X7_meetOf_L2 σ 400 a2 a1
set_option maxRecDepth 20000 in
set_option maxHeartbeats 1000000 in
theorem s_X7_meetOf_L2 {l : Launch} {D : va_G} {ty : Nat → ClassId} {ρ : Nat → Nat → Nat} {N0 : Nat} (S : St l ty ρ N0)   (σ : Sg) : ∀ (n : Nat) (v2 : Int32) (v3 : Int32) (r : Int32) (h : p_X7_meetOf_L2  σ n v2 v3 = some r) {p : Program} {e : Env} {s : State} {m : MethodId} {args : Array Value} {below : List Frame} {meth : Method} {c : Code} (K : Cx p l s m args meth c cX7_meetOf 4 RX7 (some .int) D ty ρ N0) (hX : ∀ x ∈ c.exceptionTable.toList, False), WA p l e (rmk 3 0 0) s m args below meth c D ty ρ N0 4 (vx_MQ below (oQ D ty ρ N0 (oI r) σ) (oX D ty ρ N0 (oI r) σ) args s 0 0 (fun q => N0 ≤ q)) 2 [some (.ref (ρ 20 0)), none, some (.int v2), some (.int v3)] [] σ 0 0 := by
  intro n
  induction n with
  | zero =>
    intro v2 v3 r h
    simp only [p_X7_meetOf_L2] at h
    cases h
  | succ n ih =>
    intro v2 v3 r h p e s m args below meth c K hX
    have dq := @tat _ _ dt_X7_meetOf
    rw [p_X7_meetOf_L2] at h
    refine a_aload_n K (dq 2 rfl) rfl rfl ?_
    refine a_iload_n K (dq 3 rfl) rfl rfl ?_
    refine a_iload_n K (dq 4 rfl) rfl rfl ?_
    obtain ⟨r1, h1, h⟩ := bnd h
    refine a_callVi K (s_X7_liesBehind S v2 v3  σ r1 h1) v_20 rfl rfl cw_X7_liesBehind ml_X7_80 (by decide) rfl (rest := []) rfl (Nat.le_of_ble_eq_true rfl) (dq 5 rfl) (by decide) ?_
    refine a_if_ne K (tgt := 20) (dq 6 rfl) rfl (fun c2 => ?_) (fun c2 => ?_)
    · have h := ite_f c2 h
      refine a_iload_n K (dq 12 rfl) rfl rfl ?_
      obtain rfl := Option.some.inj h
      exact a_iret K rfl rfl (dq 13 rfl) (Nat.le_of_ble_eq_true rfl) (Nat.le_of_ble_eq_true rfl) rfl rfl
    · have h := ite_t c2 h
      refine a_aload_n K (dq 7 rfl) rfl rfl ?_
      refine a_iload_n K (dq 8 rfl) rfl rfl ?_
      obtain ⟨r3, h3, h⟩ := bnd h
      refine a_callVi K (s_X7_parent S v3  σ r3 h3) v_20 rfl rfl cw_X7_parent ml_X7_69 (by decide) rfl (rest := []) rfl (Nat.le_of_ble_eq_true rfl) (dq 9 rfl) (by decide) ?_
      refine a_istore_n K (dq 10 rfl) rfl (Nat.le_of_ble_eq_true rfl) (ls' := [some (.ref (ρ 20 0)), none, some (.int v2), some (.int r3)]) rfl ?_
      refine a_goto K (tgt := 2) (dq 11 rfl) rfl ?_
      exact ih v2 r3 r h K hX
set_option maxRecDepth 20000 in
set_option maxHeartbeats 1000000 in
theorem s_X7_meetOf {l : Launch} {D : va_G} {ty : Nat → ClassId} {ρ : Nat → Nat → Nat} {N0 : Nat} (S : St l ty ρ N0) (a1 : Int32) (a2 : Int32)  (σ : Sg) (r : Int32) (h : p_X7_meetOf a1 a2 σ = some r) : AMet l D ty ρ N0 yX7_meetOf (Cond.code yX7_meetOf cX7_meetOf 4 (some .int) :: GW) (rmk 3 0 0) [.ref (ρ 20 0), .int a1, .int a2] σ (oI r) σ := by
  refine am_enter S (by decide) rfl rfl (Nat.le_of_ble_eq_true rfl) ?_
  intro p e s m args below meth c K hX
  have dq := @tat _ _ dt_X7_meetOf
  unfold p_X7_meetOf at h
  show WA p l e _ s m args below meth c D ty ρ N0 4 _ 0 [some (.ref (ρ 20 0)), some (.int a1), some (.int a2), none] [] σ 0 0
  refine a_iload_n K (dq 0 rfl) rfl rfl ?_
  refine a_istore_n K (dq 1 rfl) rfl (Nat.le_of_ble_eq_true rfl) (ls' := [some (.ref (ρ 20 0)), some (.int a1), some (.int a2), some (.int a1)]) rfl ?_
  refine a_le2 (ls' := [some (.ref (ρ 20 0)), none, some (.int a2), some (.int a1)]) ⟨rfl, rfl, rfl, trivial⟩ ?_
  exact s_X7_meetOf_L2 S   σ 400 a2 a1 r h K hX
def t_X7_root : List (Nat × Instr × Nat) := [(0, .aload_n 0, 1), (1, .iload_n 1, 1), (2, .invokevirtual 103, 3), (5, .ifCond .ne 10, 3), (8, .aload_n 0, 1), (9, .iconst 3, 1), (10, .iload_n 1, 1), (11, .invokevirtual 96, 3), (14, .ireturn, 1), (15, .aload_n 0, 1), (16, .iload_n 1, 1), (17, .invokevirtual 69, 3), (20, .ifCond .ge 11, 3), (23, .aload_n 0, 1), (24, .bipush 8, 2), (26, .iload_n 1, 1), (27, .invokevirtual 96, 3), (30, .ireturn, 1), (31, .aload_n 0, 1), (32, .aload_n 0, 1), (33, .getfield 7, 3), (36, .invokevirtual 99, 3), (39, .aload_n 0, 1), (40, .iload_n 1, 1), (41, .invokevirtual 73, 3), (44, .istore_n 2, 1), (45, .aload_n 0, 1), (46, .iload_n 1, 1), (47, .invokevirtual 117, 3), (50, .iload_n 2, 1), (51, .ireturn, 1)]
theorem dt_X7_root : tblOK cX7_root t_X7_root = true := by decide +kernel
def p_X7_root (a1 : Int32) (σ : Sg) : Option (Int32 × Sg) :=
  (p_X7_isFarm a1 σ).bind fun r1 => if r1 = 0 then ((p_X7_refuses 3 a1 σ).bind fun r9 => some (r9.1, r9.2)) else ((p_X7_parent a1 σ).bind fun r3 => if 0 ≤ r3 then ((p_X7_keeps 21 σ).bind fun r5 => (p_X7_rootOf a1 r5).bind fun r6 => (p_X7_roots a1 r5).bind fun r7 => some (r6, r7)) else ((p_X7_refuses 8 a1 σ).bind fun r8 => some (r8.1, r8.2)))
set_option maxRecDepth 20000 in
set_option maxHeartbeats 1000000 in
theorem s_X7_root {l : Launch} {D : va_G} {ty : Nat → ClassId} {ρ : Nat → Nat → Nat} {N0 : Nat} (S : St l ty ρ N0) (a1 : Int32)  (σ : Sg) (r : (Int32 × Sg)) (h : p_X7_root a1 σ = some r) : AMet l D ty ρ N0 yX7_root (Cond.code yX7_root cX7_root 3 (some .int) :: GW) (rmk 3 0 0) [.ref (ρ 20 0), .int a1] σ (oI r.1) r.2 := by
  refine am_enter S (by decide) rfl rfl (Nat.le_of_ble_eq_true rfl) ?_
  intro p e s m args below meth c K hX
  have dq := @tat _ _ dt_X7_root
  unfold p_X7_root at h
  show WA p l e _ s m args below meth c D ty ρ N0 3 _ 0 [some (.ref (ρ 20 0)), some (.int a1), none] [] σ 0 0
  refine a_aload_n K (dq 0 rfl) rfl rfl ?_
  refine a_iload_n K (dq 1 rfl) rfl rfl ?_
  obtain ⟨r1, h1, h⟩ := bnd h
  refine a_callVi K (s_X7_isFarm S a1  σ r1 h1) v_20 rfl rfl cw_X7_isFarm ml_X7_103 (by decide) rfl (rest := []) rfl (Nat.le_of_ble_eq_true rfl) (dq 2 rfl) (by decide) ?_
  refine a_if_ne K (tgt := 15) (dq 3 rfl) rfl (fun c2 => ?_) (fun c2 => ?_)
  · have h := ite_f c2 h
    refine a_aload_n K (dq 9 rfl) rfl rfl ?_
    refine a_iload_n K (dq 10 rfl) rfl rfl ?_
    obtain ⟨r3, h3, h⟩ := bnd h
    refine a_callVi K (s_X7_parent S a1  σ r3 h3) v_20 rfl rfl cw_X7_parent ml_X7_69 (by decide) rfl (rest := []) rfl (Nat.le_of_ble_eq_true rfl) (dq 11 rfl) (by decide) ?_
    refine a_if_ge K (tgt := 31) (dq 12 rfl) rfl (fun c4 => ?_) (fun c4 => ?_)
    · have h := ite_t c4 h
      refine a_aload_n K (dq 18 rfl) rfl rfl ?_
      refine a_aload_n K (dq 19 rfl) rfl rfl ?_
      refine a_get K (T := 20) (i := 0) (k := 0) (v := .ref (ρ 21 0)) v_20 rfl rfl in_X7 (Nat.le_of_ble_eq_true rfl) fl_X7_7 rfl (dq 20 rfl) ?_
      obtain ⟨r5, h5, h⟩ := bnd h
      refine a_callVv K (s_X7_keeps S 21 v_21 rfl rfl σ r5 h5) v_20 rfl rfl cw_X7_keeps ml_X7_99 (by decide) rfl (rest := []) rfl (Nat.le_of_ble_eq_true rfl) (dq 21 rfl) (by decide) ?_
      refine a_aload_n K (dq 22 rfl) rfl rfl ?_
      refine a_iload_n K (dq 23 rfl) rfl rfl ?_
      obtain ⟨r6, h6, h⟩ := bnd h
      refine a_callVi K (s_X7_rootOf S a1  r5 r6 h6) v_20 rfl rfl cw_X7_rootOf ml_X7_73 (by decide) rfl (rest := []) rfl (Nat.le_of_ble_eq_true rfl) (dq 24 rfl) (by decide) ?_
      refine a_istore_n K (dq 25 rfl) rfl (Nat.le_of_ble_eq_true rfl) (ls' := [some (.ref (ρ 20 0)), some (.int a1), some (.int r6)]) rfl ?_
      refine a_aload_n K (dq 26 rfl) rfl rfl ?_
      refine a_iload_n K (dq 27 rfl) rfl rfl ?_
      obtain ⟨r7, h7, h⟩ := bnd h
      refine a_callVv K (s_X7_roots S a1  r5 r7 h7) v_20 rfl rfl cw_X7_roots ml_X7_117 (by decide) rfl (rest := []) rfl (Nat.le_of_ble_eq_true rfl) (dq 28 rfl) (by decide) ?_
      refine a_iload_n K (dq 29 rfl) rfl rfl ?_
      obtain rfl := Option.some.inj h
      exact a_iret K rfl rfl (dq 30 rfl) (Nat.le_of_ble_eq_true rfl) (Nat.le_of_ble_eq_true rfl) rfl rfl
    · have h := ite_f c4 h
      refine a_aload_n K (dq 13 rfl) rfl rfl ?_
      refine a_bipush K (dq 14 rfl) (v := 8) rfl ?_
      refine a_iload_n K (dq 15 rfl) rfl rfl ?_
      obtain ⟨r8, h8, h⟩ := bnd h
      refine a_callVi K (s_X7_refuses S 8 a1  σ r8 h8) v_20 rfl rfl cw_X7_refuses ml_X7_96 (by decide) rfl (rest := []) rfl (Nat.le_of_ble_eq_true rfl) (dq 16 rfl) (by decide) ?_
      obtain rfl := Option.some.inj h
      exact a_iret K rfl rfl (dq 17 rfl) (Nat.le_of_ble_eq_true rfl) (Nat.le_of_ble_eq_true rfl) rfl rfl
  · have h := ite_t c2 h
    refine a_aload_n K (dq 4 rfl) rfl rfl ?_
    refine a_iconst K (dq 5 rfl) (v := 3) rfl ?_
    refine a_iload_n K (dq 6 rfl) rfl rfl ?_
    obtain ⟨r9, h9, h⟩ := bnd h
    refine a_callVi K (s_X7_refuses S 3 a1  σ r9 h9) v_20 rfl rfl cw_X7_refuses ml_X7_96 (by decide) rfl (rest := []) rfl (Nat.le_of_ble_eq_true rfl) (dq 7 rfl) (by decide) ?_
    obtain rfl := Option.some.inj h
    exact a_iret K rfl rfl (dq 8 rfl) (Nat.le_of_ble_eq_true rfl) (Nat.le_of_ble_eq_true rfl) rfl rfl
def t_X7_counted : List (Nat × Instr × Nat) := [(0, .aload_n 0, 1), (1, .iload_n 1, 1), (2, .iconst 1, 1), (3, .invokevirtual 133, 3), (6, .istore_n 2, 1), (7, .aload_n 0, 1), (8, .getfield 7, 3), (11, .iconst 2, 1), (12, .dup2, 1), (13, .iaload, 1), (14, .iconst 1, 1), (15, .iadd, 1), (16, .iastore, 1), (17, .aload_n 0, 1), (18, .getfield 7, 3), (21, .iconst 1, 1), (22, .dup2, 1), (23, .iaload, 1), (24, .iload_n 2, 1), (25, .iadd, 1), (26, .iastore, 1), (27, .iload_n 2, 1), (28, .ireturn, 1)]
theorem dt_X7_counted : tblOK cX7_counted t_X7_counted = true := by decide +kernel
def p_X7_counted (a1 : Int32) (σ : Sg) : Option (Int32 × Sg) :=
  (p_X7_exposes a1 1 σ).bind fun r1 => some (r1.1, sA (sA r1.2 21 0 2 ((gA r1.2 21 0 2) + 1)) 21 0 1 ((gA (sA r1.2 21 0 2 ((gA r1.2 21 0 2) + 1)) 21 0 1) + r1.1))
set_option maxRecDepth 20000 in
set_option maxHeartbeats 1000000 in
theorem s_X7_counted {l : Launch} {D : va_G} {ty : Nat → ClassId} {ρ : Nat → Nat → Nat} {N0 : Nat} (S : St l ty ρ N0) (a1 : Int32)  (σ : Sg) (r : (Int32 × Sg)) (h : p_X7_counted a1 σ = some r) : AMet l D ty ρ N0 yX7_counted (Cond.code yX7_counted cX7_counted 3 (some .int) :: GW) (rmk 3 0 0) [.ref (ρ 20 0), .int a1] σ (oI r.1) r.2 := by
  refine am_enter S (by decide) rfl rfl (Nat.le_of_ble_eq_true rfl) ?_
  intro p e s m args below meth c K hX
  have dq := @tat _ _ dt_X7_counted
  unfold p_X7_counted at h
  show WA p l e _ s m args below meth c D ty ρ N0 3 _ 0 [some (.ref (ρ 20 0)), some (.int a1), none] [] σ 0 0
  refine a_aload_n K (dq 0 rfl) rfl rfl ?_
  refine a_iload_n K (dq 1 rfl) rfl rfl ?_
  refine a_iconst K (dq 2 rfl) (v := 1) rfl ?_
  obtain ⟨r1, h1, h⟩ := bnd h
  refine a_callVi K (s_X7_exposes S a1 1  σ r1 h1) v_20 rfl rfl cw_X7_exposes ml_X7_133 (by decide) rfl (rest := []) rfl (Nat.le_of_ble_eq_true rfl) (dq 3 rfl) (by decide) ?_
  refine a_istore_n K (dq 4 rfl) rfl (Nat.le_of_ble_eq_true rfl) (ls' := [some (.ref (ρ 20 0)), some (.int a1), some (.int r1.1)]) rfl ?_
  refine a_aload_n K (dq 5 rfl) rfl rfl ?_
  refine a_get K (T := 20) (i := 0) (k := 0) (v := .ref (ρ 21 0)) v_20 rfl rfl in_X7 (Nat.le_of_ble_eq_true rfl) fl_X7_7 rfl (dq 6 rfl) ?_
  refine a_iconst K (dq 7 rfl) (v := 2) rfl ?_
  refine a_dup2 K (dq 8 rfl) rfl rfl ?_
  refine a_ialdK K (T := 21) (i := 0) (nj := 2) v_21 rfl rfl (ib_in rfl) rfl (dq 9 rfl) ?_
  refine a_iconst K (dq 10 rfl) (v := 1) rfl ?_
  refine a_iadd K (dq 11 rfl) ?_
  refine a_iastK K (T := 21) (i := 0) (nj := 2) v_21 rfl rfl (ib_in rfl) rfl (dq 12 rfl) ?_
  refine a_aload_n K (dq 13 rfl) rfl rfl ?_
  refine a_get K (T := 20) (i := 0) (k := 0) (v := .ref (ρ 21 0)) v_20 rfl rfl in_X7 (Nat.le_of_ble_eq_true rfl) fl_X7_7 rfl (dq 14 rfl) ?_
  refine a_iconst K (dq 15 rfl) (v := 1) rfl ?_
  refine a_dup2 K (dq 16 rfl) rfl rfl ?_
  refine a_ialdK K (T := 21) (i := 0) (nj := 1) v_21 rfl rfl (ib_in rfl) rfl (dq 17 rfl) ?_
  refine a_iload_n K (dq 18 rfl) rfl rfl ?_
  refine a_iadd K (dq 19 rfl) ?_
  refine a_iastK K (T := 21) (i := 0) (nj := 1) v_21 rfl rfl (ib_in rfl) rfl (dq 20 rfl) ?_
  refine a_iload_n K (dq 21 rfl) rfl rfl ?_
  obtain rfl := Option.some.inj h
  exact a_iret K rfl rfl (dq 22 rfl) (Nat.le_of_ble_eq_true rfl) (Nat.le_of_ble_eq_true rfl) rfl rfl
def t_X7_tooMuch : List (Nat × Instr × Nat) := [(0, .iconst 0, 1), (1, .istore_n 2, 1), (2, .iload_n 2, 1), (3, .aload_n 0, 1), (4, .getfield 87, 3), (7, .if_icmp .ge 33, 3), (10, .aload_n 0, 1), (11, .aload_n 0, 1), (12, .getfield 33, 3), (15, .iload_n 2, 1), (16, .iaload, 1), (17, .invokevirtual 93, 3), (20, .iload_n 1, 1), (21, .iadd, 1), (22, .iconst 0, 1), (23, .sipush 200, 3), (26, .invokestatic 65, 3), (29, .ifCond .ne 5, 3), (32, .iload_n 2, 1), (33, .ireturn, 1), (34, .iinc 2 1, 3), (37, .goto (-35), 3), (40, .iconst (-1), 1), (41, .ireturn, 1)]
theorem dt_X7_tooMuch : tblOK cX7_tooMuch t_X7_tooMuch = true := by decide +kernel
def p_X7_tooMuch_L2  (σ : Sg) : Nat → Int32 → Int32 → Option Int32
  | 0, _, _ => none
  | n + 1, v1, v2 => if (gI σ 20 0 18) ≤ v2 then (some (-1)) else (if ib v2 12 then ((p_X7_toll (gA σ 27 0 v2.toNatClampNeg) σ).bind fun r3 => (p_X7_in (r3 + v1) 0 200 σ).bind fun r4 => if r4 = 0 then (some v2) else (p_X7_tooMuch_L2 σ n v1 (v2 + 1))) else none)
def p_X7_tooMuch (a1 : Int32) (σ : Sg) : Option Int32 :=
  p_X7_tooMuch_L2 σ 400 a1 0
set_option maxRecDepth 20000 in
set_option maxHeartbeats 1000000 in
theorem s_X7_tooMuch_L2 {l : Launch} {D : va_G} {ty : Nat → ClassId} {ρ : Nat → Nat → Nat} {N0 : Nat} (S : St l ty ρ N0)   (σ : Sg) : ∀ (n : Nat) (v1 : Int32) (v2 : Int32) (r : Int32) (h : p_X7_tooMuch_L2  σ n v1 v2 = some r) {p : Program} {e : Env} {s : State} {m : MethodId} {args : Array Value} {below : List Frame} {meth : Method} {c : Code} (K : Cx p l s m args meth c cX7_tooMuch 3 RX7 (some .int) D ty ρ N0) (hX : ∀ x ∈ c.exceptionTable.toList, False), WA p l e (rmk 2 0 0) s m args below meth c D ty ρ N0 3 (vx_MQ below (oQ D ty ρ N0 (oI r) σ) (oX D ty ρ N0 (oI r) σ) args s 0 0 (fun q => N0 ≤ q)) 2 [some (.ref (ρ 20 0)), some (.int v1), some (.int v2)] [] σ 0 0 := by
  intro n
  induction n with
  | zero =>
    intro v1 v2 r h
    simp only [p_X7_tooMuch_L2] at h
    cases h
  | succ n ih =>
    intro v1 v2 r h p e s m args below meth c K hX
    have dq := @tat _ _ dt_X7_tooMuch
    rw [p_X7_tooMuch_L2] at h
    refine a_iload_n K (dq 2 rfl) rfl rfl ?_
    refine a_aload_n K (dq 3 rfl) rfl rfl ?_
    refine a_get K (T := 20) (i := 0) (k := 18) (v := .int (gI σ 20 0 18)) v_20 rfl rfl in_X7 (Nat.le_of_ble_eq_true rfl) fl_X7_87 rfl (dq 4 rfl) ?_
    refine a_icmp_ge K (tgt := 40) (dq 5 rfl) rfl (fun c1 => ?_) (fun c1 => ?_)
    · have h := ite_t c1 h
      refine a_iconst K (dq 22 rfl) (v := (-1)) rfl ?_
      obtain rfl := Option.some.inj h
      exact a_iret K rfl rfl (dq 23 rfl) (Nat.le_of_ble_eq_true rfl) (Nat.le_of_ble_eq_true rfl) rfl rfl
    · have h := ite_f c1 h
      refine a_aload_n K (dq 6 rfl) rfl rfl ?_
      refine a_aload_n K (dq 7 rfl) rfl rfl ?_
      refine a_get K (T := 20) (i := 0) (k := 17) (v := .ref (ρ 27 0)) v_20 rfl rfl in_X7 (Nat.le_of_ble_eq_true rfl) fl_X7_33 rfl (dq 8 rfl) ?_
      refine a_iload_n K (dq 9 rfl) rfl rfl ?_
      obtain ⟨c2, h⟩ := ib_some h
      refine a_iald K (T := 27) (i := 0) v_27 rfl rfl c2 (dq 10 rfl) ?_
      obtain ⟨r3, h3, h⟩ := bnd h
      refine a_callVi K (s_X7_toll S (gA σ 27 0 v2.toNatClampNeg)  σ r3 h3) v_20 rfl rfl cw_X7_toll ml_X7_93 (by decide) rfl (rest := []) rfl (Nat.le_of_ble_eq_true rfl) (dq 11 rfl) (by decide) ?_
      refine a_iload_n K (dq 12 rfl) rfl rfl ?_
      refine a_iadd K (dq 13 rfl) ?_
      refine a_iconst K (dq 14 rfl) (v := 0) rfl ?_
      refine a_sipush K (dq 15 rfl) (v := 200) rfl ?_
      obtain ⟨r4, h4, h⟩ := bnd h
      refine a_callSi K (s_X7_in S (r3 + v1) 0 200  σ r4 h4) cw_X7_in ml_X7_65 (by decide) rfl (rest := []) rfl (Nat.le_of_ble_eq_true rfl) (dq 16 rfl) (by decide) ?_
      refine a_if_ne K (tgt := 34) (dq 17 rfl) rfl (fun c5 => ?_) (fun c5 => ?_)
      · have h := ite_f c5 h
        refine a_iinc K (dq 20 rfl) rfl (v := (v2 + 1)) rfl (Nat.le_of_ble_eq_true rfl) (ls' := [some (.ref (ρ 20 0)), some (.int v1), some (.int (v2 + 1))]) rfl ?_
        refine a_goto K (tgt := 2) (dq 21 rfl) rfl ?_
        exact ih v1 (v2 + 1) r h K hX
      · have h := ite_t c5 h
        refine a_iload_n K (dq 18 rfl) rfl rfl ?_
        obtain rfl := Option.some.inj h
        exact a_iret K rfl rfl (dq 19 rfl) (Nat.le_of_ble_eq_true rfl) (Nat.le_of_ble_eq_true rfl) rfl rfl
set_option maxRecDepth 20000 in
set_option maxHeartbeats 1000000 in
theorem s_X7_tooMuch {l : Launch} {D : va_G} {ty : Nat → ClassId} {ρ : Nat → Nat → Nat} {N0 : Nat} (S : St l ty ρ N0) (a1 : Int32)  (σ : Sg) (r : Int32) (h : p_X7_tooMuch a1 σ = some r) : AMet l D ty ρ N0 yX7_tooMuch (Cond.code yX7_tooMuch cX7_tooMuch 3 (some .int) :: GW) (rmk 2 0 0) [.ref (ρ 20 0), .int a1] σ (oI r) σ := by
  refine am_enter S (by decide) rfl rfl (Nat.le_of_ble_eq_true rfl) ?_
  intro p e s m args below meth c K hX
  have dq := @tat _ _ dt_X7_tooMuch
  unfold p_X7_tooMuch at h
  show WA p l e _ s m args below meth c D ty ρ N0 3 _ 0 [some (.ref (ρ 20 0)), some (.int a1), none] [] σ 0 0
  refine a_iconst K (dq 0 rfl) (v := 0) rfl ?_
  refine a_istore_n K (dq 1 rfl) rfl (Nat.le_of_ble_eq_true rfl) (ls' := [some (.ref (ρ 20 0)), some (.int a1), some (.int 0)]) rfl ?_
  exact s_X7_tooMuch_L2 S   σ 400 a1 0 r h K hX
def t_X7_farmOf : List (Nat × Instr × Nat) := [(0, .aload_n 0, 1), (1, .aload_n 0, 1), (2, .iload_n 1, 1), (3, .invokevirtual 103, 3), (6, .ifCond .ne 7, 3), (9, .iconst 1, 1), (10, .goto 18, 3), (13, .iload_n 2, 1), (14, .iconst 0, 1), (15, .bipush 6, 2), (17, .invokestatic 65, 3), (20, .ifCond .eq 7, 3), (23, .iconst 0, 1), (24, .goto 4, 3), (27, .iconst 2, 1), (28, .invokevirtual 146, 3), (31, .ifCond .eq 5, 3), (34, .iconst 0, 1), (35, .ireturn, 1), (36, .iload_n 2, 1), (37, .tableswitch 75 0 5 #[39, 45, 51, 57, 63, 69], 39), (76, .aload_n 0, 1), (77, .iload_n 1, 1), (78, .invokevirtual 93, 3), (81, .ireturn, 1), (82, .aload_n 0, 1), (83, .iload_n 1, 1), (84, .invokevirtual 69, 3), (87, .ireturn, 1), (88, .aload_n 0, 1), (89, .iload_n 1, 1), (90, .invokevirtual 130, 3), (93, .ireturn, 1), (94, .aload_n 0, 1), (95, .iload_n 1, 1), (96, .invokevirtual 90, 3), (99, .ireturn, 1), (100, .aload_n 0, 1), (101, .iload_n 1, 1), (102, .invokevirtual 149, 3), (105, .ireturn, 1), (106, .aload_n 0, 1), (107, .iload_n 1, 1), (108, .invokevirtual 152, 3), (111, .ireturn, 1), (112, .aload_n 0, 1), (113, .iload_n 1, 1), (114, .invokevirtual 73, 3), (117, .ireturn, 1)]
theorem dt_X7_farmOf : tblOK cX7_farmOf t_X7_farmOf = true := by decide +kernel
def p_X7_farmOf (a1 : Int32) (a2 : Int32) (σ : Sg) : Option (Int32 × Sg) :=
  (p_X7_isFarm a1 σ).bind fun r1 => if r1 = 0 then ((p_X7_fails 1 σ).bind fun r35 => if r35.1 = 0 then (if a2 = 0 then ((p_X7_toll a1 r35.2).bind fun r38 => some (r38, r35.2)) else (if a2 = 1 then ((p_X7_parent a1 r35.2).bind fun r40 => some (r40, r35.2)) else (if a2 = 2 then ((p_X7_prefers a1 r35.2).bind fun r42 => some (r42, r35.2)) else (if a2 = 3 then ((p_X7_depth a1 r35.2).bind fun r44 => some (r44, r35.2)) else (if a2 = 4 then ((p_X7_children a1 r35.2).bind fun r46 => some (r46, r35.2)) else (if a2 = 5 then ((p_X7_behind a1 r35.2).bind fun r48 => some (r48, r35.2)) else ((p_X7_rootOf a1 r35.2).bind fun r49 => some (r49, r35.2)))))))) else (some (0, r35.2))) else ((p_X7_in a2 0 6 σ).bind fun r3 => if r3 = 0 then ((p_X7_fails 2 σ).bind fun r5 => if r5.1 = 0 then (if a2 = 0 then ((p_X7_toll a1 r5.2).bind fun r8 => some (r8, r5.2)) else (if a2 = 1 then ((p_X7_parent a1 r5.2).bind fun r10 => some (r10, r5.2)) else (if a2 = 2 then ((p_X7_prefers a1 r5.2).bind fun r12 => some (r12, r5.2)) else (if a2 = 3 then ((p_X7_depth a1 r5.2).bind fun r14 => some (r14, r5.2)) else (if a2 = 4 then ((p_X7_children a1 r5.2).bind fun r16 => some (r16, r5.2)) else (if a2 = 5 then ((p_X7_behind a1 r5.2).bind fun r18 => some (r18, r5.2)) else ((p_X7_rootOf a1 r5.2).bind fun r19 => some (r19, r5.2)))))))) else (some (0, r5.2))) else ((p_X7_fails 0 σ).bind fun r20 => if r20.1 = 0 then (if a2 = 0 then ((p_X7_toll a1 r20.2).bind fun r23 => some (r23, r20.2)) else (if a2 = 1 then ((p_X7_parent a1 r20.2).bind fun r25 => some (r25, r20.2)) else (if a2 = 2 then ((p_X7_prefers a1 r20.2).bind fun r27 => some (r27, r20.2)) else (if a2 = 3 then ((p_X7_depth a1 r20.2).bind fun r29 => some (r29, r20.2)) else (if a2 = 4 then ((p_X7_children a1 r20.2).bind fun r31 => some (r31, r20.2)) else (if a2 = 5 then ((p_X7_behind a1 r20.2).bind fun r33 => some (r33, r20.2)) else ((p_X7_rootOf a1 r20.2).bind fun r34 => some (r34, r20.2)))))))) else (some (0, r20.2))))
set_option maxRecDepth 20000 in
set_option maxHeartbeats 1000000 in
theorem s_X7_farmOf {l : Launch} {D : va_G} {ty : Nat → ClassId} {ρ : Nat → Nat → Nat} {N0 : Nat} (S : St l ty ρ N0) (a1 : Int32) (a2 : Int32)  (σ : Sg) (r : (Int32 × Sg)) (h : p_X7_farmOf a1 a2 σ = some r) : AMet l D ty ρ N0 yX7_farmOf (Cond.code yX7_farmOf cX7_farmOf 3 (some .int) :: GW) (rmk 4 0 0) [.ref (ρ 20 0), .int a1, .int a2] σ (oI r.1) r.2 := by
  refine am_enter S (by decide) rfl rfl (Nat.le_of_ble_eq_true rfl) ?_
  intro p e s m args below meth c K hX
  have dq := @tat _ _ dt_X7_farmOf
  unfold p_X7_farmOf at h
  show WA p l e _ s m args below meth c D ty ρ N0 3 _ 0 [some (.ref (ρ 20 0)), some (.int a1), some (.int a2)] [] σ 0 0
  refine a_aload_n K (dq 0 rfl) rfl rfl ?_
  refine a_aload_n K (dq 1 rfl) rfl rfl ?_
  refine a_iload_n K (dq 2 rfl) rfl rfl ?_
  obtain ⟨r1, h1, h⟩ := bnd h
  refine a_callVi K (s_X7_isFarm S a1  σ r1 h1) v_20 rfl rfl cw_X7_isFarm ml_X7_103 (by decide) rfl (rest := [.ref (ρ 20 0)]) rfl (Nat.le_of_ble_eq_true rfl) (dq 3 rfl) (by decide) ?_
  refine a_if_ne K (tgt := 13) (dq 4 rfl) rfl (fun c2 => ?_) (fun c2 => ?_)
  · have h := ite_f c2 h
    refine a_iload_n K (dq 7 rfl) rfl rfl ?_
    refine a_iconst K (dq 8 rfl) (v := 0) rfl ?_
    refine a_bipush K (dq 9 rfl) (v := 6) rfl ?_
    obtain ⟨r3, h3, h⟩ := bnd h
    refine a_callSi K (s_X7_in S a2 0 6  σ r3 h3) cw_X7_in ml_X7_65 (by decide) rfl (rest := [.ref (ρ 20 0)]) rfl (Nat.le_of_ble_eq_true rfl) (dq 10 rfl) (by decide) ?_
    refine a_if_eq K (tgt := 27) (dq 11 rfl) rfl (fun c4 => ?_) (fun c4 => ?_)
    · have h := ite_t c4 h
      refine a_iconst K (dq 14 rfl) (v := 2) rfl ?_
      obtain ⟨r5, h5, h⟩ := bnd h
      refine a_callVi K (s_X7_fails S 2  σ r5 h5) v_20 rfl rfl cw_X7_fails ml_X7_146 (by decide) rfl (rest := []) rfl (Nat.le_of_ble_eq_true rfl) (dq 15 rfl) (by decide) ?_
      refine a_if_eq K (tgt := 36) (dq 16 rfl) rfl (fun c6 => ?_) (fun c6 => ?_)
      · have h := ite_t c6 h
        refine a_iload_n K (dq 19 rfl) rfl rfl ?_
        by_cases c7 : a2 = 0
        · have h := ite_t c7 h
          refine a_tableIn K (off := 39) (tgt := 76) (dq 20 rfl) (by rw [c7]; decide) (by rw [c7]; decide) (by rw [c7]; rfl) rfl ?_
          refine a_aload_n K (dq 21 rfl) rfl rfl ?_
          refine a_iload_n K (dq 22 rfl) rfl rfl ?_
          obtain ⟨r8, h8, h⟩ := bnd h
          refine a_callVi K (s_X7_toll S a1  r5.2 r8 h8) v_20 rfl rfl cw_X7_toll ml_X7_93 (by decide) rfl (rest := []) rfl (Nat.le_of_ble_eq_true rfl) (dq 23 rfl) (by decide) ?_
          obtain rfl := Option.some.inj h
          exact a_iret K rfl rfl (dq 24 rfl) (Nat.le_of_ble_eq_true rfl) (Nat.le_of_ble_eq_true rfl) rfl rfl
        · have h := ite_f c7 h
          by_cases c9 : a2 = 1
          · have h := ite_t c9 h
            refine a_tableIn K (off := 45) (tgt := 82) (dq 20 rfl) (by rw [c9]; decide) (by rw [c9]; decide) (by rw [c9]; rfl) rfl ?_
            refine a_aload_n K (dq 25 rfl) rfl rfl ?_
            refine a_iload_n K (dq 26 rfl) rfl rfl ?_
            obtain ⟨r10, h10, h⟩ := bnd h
            refine a_callVi K (s_X7_parent S a1  r5.2 r10 h10) v_20 rfl rfl cw_X7_parent ml_X7_69 (by decide) rfl (rest := []) rfl (Nat.le_of_ble_eq_true rfl) (dq 27 rfl) (by decide) ?_
            obtain rfl := Option.some.inj h
            exact a_iret K rfl rfl (dq 28 rfl) (Nat.le_of_ble_eq_true rfl) (Nat.le_of_ble_eq_true rfl) rfl rfl
          · have h := ite_f c9 h
            by_cases c11 : a2 = 2
            · have h := ite_t c11 h
              refine a_tableIn K (off := 51) (tgt := 88) (dq 20 rfl) (by rw [c11]; decide) (by rw [c11]; decide) (by rw [c11]; rfl) rfl ?_
              refine a_aload_n K (dq 29 rfl) rfl rfl ?_
              refine a_iload_n K (dq 30 rfl) rfl rfl ?_
              obtain ⟨r12, h12, h⟩ := bnd h
              refine a_callVi K (s_X7_prefers S a1  r5.2 r12 h12) v_20 rfl rfl cw_X7_prefers ml_X7_130 (by decide) rfl (rest := []) rfl (Nat.le_of_ble_eq_true rfl) (dq 31 rfl) (by decide) ?_
              obtain rfl := Option.some.inj h
              exact a_iret K rfl rfl (dq 32 rfl) (Nat.le_of_ble_eq_true rfl) (Nat.le_of_ble_eq_true rfl) rfl rfl
            · have h := ite_f c11 h
              by_cases c13 : a2 = 3
              · have h := ite_t c13 h
                refine a_tableIn K (off := 57) (tgt := 94) (dq 20 rfl) (by rw [c13]; decide) (by rw [c13]; decide) (by rw [c13]; rfl) rfl ?_
                refine a_aload_n K (dq 33 rfl) rfl rfl ?_
                refine a_iload_n K (dq 34 rfl) rfl rfl ?_
                obtain ⟨r14, h14, h⟩ := bnd h
                refine a_callVi K (s_X7_depth S a1  r5.2 r14 h14) v_20 rfl rfl cw_X7_depth ml_X7_90 (by decide) rfl (rest := []) rfl (Nat.le_of_ble_eq_true rfl) (dq 35 rfl) (by decide) ?_
                obtain rfl := Option.some.inj h
                exact a_iret K rfl rfl (dq 36 rfl) (Nat.le_of_ble_eq_true rfl) (Nat.le_of_ble_eq_true rfl) rfl rfl
              · have h := ite_f c13 h
                by_cases c15 : a2 = 4
                · have h := ite_t c15 h
                  refine a_tableIn K (off := 63) (tgt := 100) (dq 20 rfl) (by rw [c15]; decide) (by rw [c15]; decide) (by rw [c15]; rfl) rfl ?_
                  refine a_aload_n K (dq 37 rfl) rfl rfl ?_
                  refine a_iload_n K (dq 38 rfl) rfl rfl ?_
                  obtain ⟨r16, h16, h⟩ := bnd h
                  refine a_callVi K (s_X7_children S a1  r5.2 r16 h16) v_20 rfl rfl cw_X7_children ml_X7_149 (by decide) rfl (rest := []) rfl (Nat.le_of_ble_eq_true rfl) (dq 39 rfl) (by decide) ?_
                  obtain rfl := Option.some.inj h
                  exact a_iret K rfl rfl (dq 40 rfl) (Nat.le_of_ble_eq_true rfl) (Nat.le_of_ble_eq_true rfl) rfl rfl
                · have h := ite_f c15 h
                  by_cases c17 : a2 = 5
                  · have h := ite_t c17 h
                    refine a_tableIn K (off := 69) (tgt := 106) (dq 20 rfl) (by rw [c17]; decide) (by rw [c17]; decide) (by rw [c17]; rfl) rfl ?_
                    refine a_aload_n K (dq 41 rfl) rfl rfl ?_
                    refine a_iload_n K (dq 42 rfl) rfl rfl ?_
                    obtain ⟨r18, h18, h⟩ := bnd h
                    refine a_callVi K (s_X7_behind S a1  r5.2 r18 h18) v_20 rfl rfl cw_X7_behind ml_X7_152 (by decide) rfl (rest := []) rfl (Nat.le_of_ble_eq_true rfl) (dq 43 rfl) (by decide) ?_
                    obtain rfl := Option.some.inj h
                    exact a_iret K rfl rfl (dq 44 rfl) (Nat.le_of_ble_eq_true rfl) (Nat.le_of_ble_eq_true rfl) rfl rfl
                  · have h := ite_f c17 h
                    refine a_tableD K (tgt := 112) (dq 20 rfl) ?_ rfl ?_
                    · have := i32ne c7 (k := 0) (by decide); have := i32ne c9 (k := 1) (by decide); have := i32ne c11 (k := 2) (by decide); have := i32ne c13 (k := 3) (by decide); have := i32ne c15 (k := 4) (by decide); have := i32ne c17 (k := 5) (by decide)
                      have hz : (a2).toInt < 0 ∨ 5 < (a2).toInt := by omega
                      rcases hz with q | q
                      · exact Or.inl q
                      · exact Or.inr (Or.inl q)
                    refine a_aload_n K (dq 45 rfl) rfl rfl ?_
                    refine a_iload_n K (dq 46 rfl) rfl rfl ?_
                    obtain ⟨r19, h19, h⟩ := bnd h
                    refine a_callVi K (s_X7_rootOf S a1  r5.2 r19 h19) v_20 rfl rfl cw_X7_rootOf ml_X7_73 (by decide) rfl (rest := []) rfl (Nat.le_of_ble_eq_true rfl) (dq 47 rfl) (by decide) ?_
                    obtain rfl := Option.some.inj h
                    exact a_iret K rfl rfl (dq 48 rfl) (Nat.le_of_ble_eq_true rfl) (Nat.le_of_ble_eq_true rfl) rfl rfl
      · have h := ite_f c6 h
        refine a_iconst K (dq 17 rfl) (v := 0) rfl ?_
        obtain rfl := Option.some.inj h
        exact a_iret K rfl rfl (dq 18 rfl) (Nat.le_of_ble_eq_true rfl) (Nat.le_of_ble_eq_true rfl) rfl rfl
    · have h := ite_f c4 h
      refine a_iconst K (dq 12 rfl) (v := 0) rfl ?_
      refine a_goto K (tgt := 28) (dq 13 rfl) rfl ?_
      obtain ⟨r20, h20, h⟩ := bnd h
      refine a_callVi K (s_X7_fails S 0  σ r20 h20) v_20 rfl rfl cw_X7_fails ml_X7_146 (by decide) rfl (rest := []) rfl (Nat.le_of_ble_eq_true rfl) (dq 15 rfl) (by decide) ?_
      refine a_if_eq K (tgt := 36) (dq 16 rfl) rfl (fun c21 => ?_) (fun c21 => ?_)
      · have h := ite_t c21 h
        refine a_iload_n K (dq 19 rfl) rfl rfl ?_
        by_cases c22 : a2 = 0
        · have h := ite_t c22 h
          refine a_tableIn K (off := 39) (tgt := 76) (dq 20 rfl) (by rw [c22]; decide) (by rw [c22]; decide) (by rw [c22]; rfl) rfl ?_
          refine a_aload_n K (dq 21 rfl) rfl rfl ?_
          refine a_iload_n K (dq 22 rfl) rfl rfl ?_
          obtain ⟨r23, h23, h⟩ := bnd h
          refine a_callVi K (s_X7_toll S a1  r20.2 r23 h23) v_20 rfl rfl cw_X7_toll ml_X7_93 (by decide) rfl (rest := []) rfl (Nat.le_of_ble_eq_true rfl) (dq 23 rfl) (by decide) ?_
          obtain rfl := Option.some.inj h
          exact a_iret K rfl rfl (dq 24 rfl) (Nat.le_of_ble_eq_true rfl) (Nat.le_of_ble_eq_true rfl) rfl rfl
        · have h := ite_f c22 h
          by_cases c24 : a2 = 1
          · have h := ite_t c24 h
            refine a_tableIn K (off := 45) (tgt := 82) (dq 20 rfl) (by rw [c24]; decide) (by rw [c24]; decide) (by rw [c24]; rfl) rfl ?_
            refine a_aload_n K (dq 25 rfl) rfl rfl ?_
            refine a_iload_n K (dq 26 rfl) rfl rfl ?_
            obtain ⟨r25, h25, h⟩ := bnd h
            refine a_callVi K (s_X7_parent S a1  r20.2 r25 h25) v_20 rfl rfl cw_X7_parent ml_X7_69 (by decide) rfl (rest := []) rfl (Nat.le_of_ble_eq_true rfl) (dq 27 rfl) (by decide) ?_
            obtain rfl := Option.some.inj h
            exact a_iret K rfl rfl (dq 28 rfl) (Nat.le_of_ble_eq_true rfl) (Nat.le_of_ble_eq_true rfl) rfl rfl
          · have h := ite_f c24 h
            by_cases c26 : a2 = 2
            · have h := ite_t c26 h
              refine a_tableIn K (off := 51) (tgt := 88) (dq 20 rfl) (by rw [c26]; decide) (by rw [c26]; decide) (by rw [c26]; rfl) rfl ?_
              refine a_aload_n K (dq 29 rfl) rfl rfl ?_
              refine a_iload_n K (dq 30 rfl) rfl rfl ?_
              obtain ⟨r27, h27, h⟩ := bnd h
              refine a_callVi K (s_X7_prefers S a1  r20.2 r27 h27) v_20 rfl rfl cw_X7_prefers ml_X7_130 (by decide) rfl (rest := []) rfl (Nat.le_of_ble_eq_true rfl) (dq 31 rfl) (by decide) ?_
              obtain rfl := Option.some.inj h
              exact a_iret K rfl rfl (dq 32 rfl) (Nat.le_of_ble_eq_true rfl) (Nat.le_of_ble_eq_true rfl) rfl rfl
            · have h := ite_f c26 h
              by_cases c28 : a2 = 3
              · have h := ite_t c28 h
                refine a_tableIn K (off := 57) (tgt := 94) (dq 20 rfl) (by rw [c28]; decide) (by rw [c28]; decide) (by rw [c28]; rfl) rfl ?_
                refine a_aload_n K (dq 33 rfl) rfl rfl ?_
                refine a_iload_n K (dq 34 rfl) rfl rfl ?_
                obtain ⟨r29, h29, h⟩ := bnd h
                refine a_callVi K (s_X7_depth S a1  r20.2 r29 h29) v_20 rfl rfl cw_X7_depth ml_X7_90 (by decide) rfl (rest := []) rfl (Nat.le_of_ble_eq_true rfl) (dq 35 rfl) (by decide) ?_
                obtain rfl := Option.some.inj h
                exact a_iret K rfl rfl (dq 36 rfl) (Nat.le_of_ble_eq_true rfl) (Nat.le_of_ble_eq_true rfl) rfl rfl
              · have h := ite_f c28 h
                by_cases c30 : a2 = 4
                · have h := ite_t c30 h
                  refine a_tableIn K (off := 63) (tgt := 100) (dq 20 rfl) (by rw [c30]; decide) (by rw [c30]; decide) (by rw [c30]; rfl) rfl ?_
                  refine a_aload_n K (dq 37 rfl) rfl rfl ?_
                  refine a_iload_n K (dq 38 rfl) rfl rfl ?_
                  obtain ⟨r31, h31, h⟩ := bnd h
                  refine a_callVi K (s_X7_children S a1  r20.2 r31 h31) v_20 rfl rfl cw_X7_children ml_X7_149 (by decide) rfl (rest := []) rfl (Nat.le_of_ble_eq_true rfl) (dq 39 rfl) (by decide) ?_
                  obtain rfl := Option.some.inj h
                  exact a_iret K rfl rfl (dq 40 rfl) (Nat.le_of_ble_eq_true rfl) (Nat.le_of_ble_eq_true rfl) rfl rfl
                · have h := ite_f c30 h
                  by_cases c32 : a2 = 5
                  · have h := ite_t c32 h
                    refine a_tableIn K (off := 69) (tgt := 106) (dq 20 rfl) (by rw [c32]; decide) (by rw [c32]; decide) (by rw [c32]; rfl) rfl ?_
                    refine a_aload_n K (dq 41 rfl) rfl rfl ?_
                    refine a_iload_n K (dq 42 rfl) rfl rfl ?_
                    obtain ⟨r33, h33, h⟩ := bnd h
                    refine a_callVi K (s_X7_behind S a1  r20.2 r33 h33) v_20 rfl rfl cw_X7_behind ml_X7_152 (by decide) rfl (rest := []) rfl (Nat.le_of_ble_eq_true rfl) (dq 43 rfl) (by decide) ?_
                    obtain rfl := Option.some.inj h
                    exact a_iret K rfl rfl (dq 44 rfl) (Nat.le_of_ble_eq_true rfl) (Nat.le_of_ble_eq_true rfl) rfl rfl
                  · have h := ite_f c32 h
                    refine a_tableD K (tgt := 112) (dq 20 rfl) ?_ rfl ?_
                    · have := i32ne c22 (k := 0) (by decide); have := i32ne c24 (k := 1) (by decide); have := i32ne c26 (k := 2) (by decide); have := i32ne c28 (k := 3) (by decide); have := i32ne c30 (k := 4) (by decide); have := i32ne c32 (k := 5) (by decide)
                      have hz : (a2).toInt < 0 ∨ 5 < (a2).toInt := by omega
                      rcases hz with q | q
                      · exact Or.inl q
                      · exact Or.inr (Or.inl q)
                    refine a_aload_n K (dq 45 rfl) rfl rfl ?_
                    refine a_iload_n K (dq 46 rfl) rfl rfl ?_
                    obtain ⟨r34, h34, h⟩ := bnd h
                    refine a_callVi K (s_X7_rootOf S a1  r20.2 r34 h34) v_20 rfl rfl cw_X7_rootOf ml_X7_73 (by decide) rfl (rest := []) rfl (Nat.le_of_ble_eq_true rfl) (dq 47 rfl) (by decide) ?_
                    obtain rfl := Option.some.inj h
                    exact a_iret K rfl rfl (dq 48 rfl) (Nat.le_of_ble_eq_true rfl) (Nat.le_of_ble_eq_true rfl) rfl rfl
      · have h := ite_f c21 h
        refine a_iconst K (dq 17 rfl) (v := 0) rfl ?_
        obtain rfl := Option.some.inj h
        exact a_iret K rfl rfl (dq 18 rfl) (Nat.le_of_ble_eq_true rfl) (Nat.le_of_ble_eq_true rfl) rfl rfl
  · have h := ite_t c2 h
    refine a_iconst K (dq 5 rfl) (v := 1) rfl ?_
    refine a_goto K (tgt := 28) (dq 6 rfl) rfl ?_
    obtain ⟨r35, h35, h⟩ := bnd h
    refine a_callVi K (s_X7_fails S 1  σ r35 h35) v_20 rfl rfl cw_X7_fails ml_X7_146 (by decide) rfl (rest := []) rfl (Nat.le_of_ble_eq_true rfl) (dq 15 rfl) (by decide) ?_
    refine a_if_eq K (tgt := 36) (dq 16 rfl) rfl (fun c36 => ?_) (fun c36 => ?_)
    · have h := ite_t c36 h
      refine a_iload_n K (dq 19 rfl) rfl rfl ?_
      by_cases c37 : a2 = 0
      · have h := ite_t c37 h
        refine a_tableIn K (off := 39) (tgt := 76) (dq 20 rfl) (by rw [c37]; decide) (by rw [c37]; decide) (by rw [c37]; rfl) rfl ?_
        refine a_aload_n K (dq 21 rfl) rfl rfl ?_
        refine a_iload_n K (dq 22 rfl) rfl rfl ?_
        obtain ⟨r38, h38, h⟩ := bnd h
        refine a_callVi K (s_X7_toll S a1  r35.2 r38 h38) v_20 rfl rfl cw_X7_toll ml_X7_93 (by decide) rfl (rest := []) rfl (Nat.le_of_ble_eq_true rfl) (dq 23 rfl) (by decide) ?_
        obtain rfl := Option.some.inj h
        exact a_iret K rfl rfl (dq 24 rfl) (Nat.le_of_ble_eq_true rfl) (Nat.le_of_ble_eq_true rfl) rfl rfl
      · have h := ite_f c37 h
        by_cases c39 : a2 = 1
        · have h := ite_t c39 h
          refine a_tableIn K (off := 45) (tgt := 82) (dq 20 rfl) (by rw [c39]; decide) (by rw [c39]; decide) (by rw [c39]; rfl) rfl ?_
          refine a_aload_n K (dq 25 rfl) rfl rfl ?_
          refine a_iload_n K (dq 26 rfl) rfl rfl ?_
          obtain ⟨r40, h40, h⟩ := bnd h
          refine a_callVi K (s_X7_parent S a1  r35.2 r40 h40) v_20 rfl rfl cw_X7_parent ml_X7_69 (by decide) rfl (rest := []) rfl (Nat.le_of_ble_eq_true rfl) (dq 27 rfl) (by decide) ?_
          obtain rfl := Option.some.inj h
          exact a_iret K rfl rfl (dq 28 rfl) (Nat.le_of_ble_eq_true rfl) (Nat.le_of_ble_eq_true rfl) rfl rfl
        · have h := ite_f c39 h
          by_cases c41 : a2 = 2
          · have h := ite_t c41 h
            refine a_tableIn K (off := 51) (tgt := 88) (dq 20 rfl) (by rw [c41]; decide) (by rw [c41]; decide) (by rw [c41]; rfl) rfl ?_
            refine a_aload_n K (dq 29 rfl) rfl rfl ?_
            refine a_iload_n K (dq 30 rfl) rfl rfl ?_
            obtain ⟨r42, h42, h⟩ := bnd h
            refine a_callVi K (s_X7_prefers S a1  r35.2 r42 h42) v_20 rfl rfl cw_X7_prefers ml_X7_130 (by decide) rfl (rest := []) rfl (Nat.le_of_ble_eq_true rfl) (dq 31 rfl) (by decide) ?_
            obtain rfl := Option.some.inj h
            exact a_iret K rfl rfl (dq 32 rfl) (Nat.le_of_ble_eq_true rfl) (Nat.le_of_ble_eq_true rfl) rfl rfl
          · have h := ite_f c41 h
            by_cases c43 : a2 = 3
            · have h := ite_t c43 h
              refine a_tableIn K (off := 57) (tgt := 94) (dq 20 rfl) (by rw [c43]; decide) (by rw [c43]; decide) (by rw [c43]; rfl) rfl ?_
              refine a_aload_n K (dq 33 rfl) rfl rfl ?_
              refine a_iload_n K (dq 34 rfl) rfl rfl ?_
              obtain ⟨r44, h44, h⟩ := bnd h
              refine a_callVi K (s_X7_depth S a1  r35.2 r44 h44) v_20 rfl rfl cw_X7_depth ml_X7_90 (by decide) rfl (rest := []) rfl (Nat.le_of_ble_eq_true rfl) (dq 35 rfl) (by decide) ?_
              obtain rfl := Option.some.inj h
              exact a_iret K rfl rfl (dq 36 rfl) (Nat.le_of_ble_eq_true rfl) (Nat.le_of_ble_eq_true rfl) rfl rfl
            · have h := ite_f c43 h
              by_cases c45 : a2 = 4
              · have h := ite_t c45 h
                refine a_tableIn K (off := 63) (tgt := 100) (dq 20 rfl) (by rw [c45]; decide) (by rw [c45]; decide) (by rw [c45]; rfl) rfl ?_
                refine a_aload_n K (dq 37 rfl) rfl rfl ?_
                refine a_iload_n K (dq 38 rfl) rfl rfl ?_
                obtain ⟨r46, h46, h⟩ := bnd h
                refine a_callVi K (s_X7_children S a1  r35.2 r46 h46) v_20 rfl rfl cw_X7_children ml_X7_149 (by decide) rfl (rest := []) rfl (Nat.le_of_ble_eq_true rfl) (dq 39 rfl) (by decide) ?_
                obtain rfl := Option.some.inj h
                exact a_iret K rfl rfl (dq 40 rfl) (Nat.le_of_ble_eq_true rfl) (Nat.le_of_ble_eq_true rfl) rfl rfl
              · have h := ite_f c45 h
                by_cases c47 : a2 = 5
                · have h := ite_t c47 h
                  refine a_tableIn K (off := 69) (tgt := 106) (dq 20 rfl) (by rw [c47]; decide) (by rw [c47]; decide) (by rw [c47]; rfl) rfl ?_
                  refine a_aload_n K (dq 41 rfl) rfl rfl ?_
                  refine a_iload_n K (dq 42 rfl) rfl rfl ?_
                  obtain ⟨r48, h48, h⟩ := bnd h
                  refine a_callVi K (s_X7_behind S a1  r35.2 r48 h48) v_20 rfl rfl cw_X7_behind ml_X7_152 (by decide) rfl (rest := []) rfl (Nat.le_of_ble_eq_true rfl) (dq 43 rfl) (by decide) ?_
                  obtain rfl := Option.some.inj h
                  exact a_iret K rfl rfl (dq 44 rfl) (Nat.le_of_ble_eq_true rfl) (Nat.le_of_ble_eq_true rfl) rfl rfl
                · have h := ite_f c47 h
                  refine a_tableD K (tgt := 112) (dq 20 rfl) ?_ rfl ?_
                  · have := i32ne c37 (k := 0) (by decide); have := i32ne c39 (k := 1) (by decide); have := i32ne c41 (k := 2) (by decide); have := i32ne c43 (k := 3) (by decide); have := i32ne c45 (k := 4) (by decide); have := i32ne c47 (k := 5) (by decide)
                    have hz : (a2).toInt < 0 ∨ 5 < (a2).toInt := by omega
                    rcases hz with q | q
                    · exact Or.inl q
                    · exact Or.inr (Or.inl q)
                  refine a_aload_n K (dq 45 rfl) rfl rfl ?_
                  refine a_iload_n K (dq 46 rfl) rfl rfl ?_
                  obtain ⟨r49, h49, h⟩ := bnd h
                  refine a_callVi K (s_X7_rootOf S a1  r35.2 r49 h49) v_20 rfl rfl cw_X7_rootOf ml_X7_73 (by decide) rfl (rest := []) rfl (Nat.le_of_ble_eq_true rfl) (dq 47 rfl) (by decide) ?_
                  obtain rfl := Option.some.inj h
                  exact a_iret K rfl rfl (dq 48 rfl) (Nat.le_of_ble_eq_true rfl) (Nat.le_of_ble_eq_true rfl) rfl rfl
    · have h := ite_f c36 h
      refine a_iconst K (dq 17 rfl) (v := 0) rfl ?_
      obtain rfl := Option.some.inj h
      exact a_iret K rfl rfl (dq 18 rfl) (Nat.le_of_ble_eq_true rfl) (Nat.le_of_ble_eq_true rfl) rfl rfl
def t_X7_isTrack : List (Nat × Instr × Nat) := [(0, .aload_n 0, 1), (1, .aload_n 0, 1), (2, .iload_n 1, 1), (3, .iload_n 2, 1), (4, .invokevirtual 107, 3), (7, .ifCond .eq 7, 3), (10, .iconst 0, 1), (11, .goto 4, 3), (14, .iconst 1, 1), (15, .invokevirtual 146, 3), (18, .ifCond .ne 16, 3), (21, .aload_n 0, 1), (22, .iload_n 1, 1), (23, .iload_n 2, 1), (24, .invokevirtual 124, 3), (27, .ifCond .eq 7, 3), (30, .iconst 1, 1), (31, .goto 4, 3), (34, .iconst 0, 1), (35, .ireturn, 1)]
theorem dt_X7_isTrack : tblOK cX7_isTrack t_X7_isTrack = true := by decide +kernel
def p_X7_isTrack (a1 : Int32) (a2 : Int32) (σ : Sg) : Option (Int32 × Sg) :=
  (p_X7_areFarms a1 a2 σ).bind fun r1 => if r1 = 0 then ((p_X7_fails 1 σ).bind fun r3 => if r3.1 = 0 then ((p_X7_isLaid a1 a2 r3.2).bind fun r5 => if r5 = 0 then (some (0, r3.2)) else (some (1, r3.2))) else (some (0, r3.2))) else ((p_X7_fails 0 σ).bind fun r7 => if r7.1 = 0 then ((p_X7_isLaid a1 a2 r7.2).bind fun r9 => if r9 = 0 then (some (0, r7.2)) else (some (1, r7.2))) else (some (0, r7.2)))
set_option maxRecDepth 20000 in
set_option maxHeartbeats 1000000 in
theorem s_X7_isTrack {l : Launch} {D : va_G} {ty : Nat → ClassId} {ρ : Nat → Nat → Nat} {N0 : Nat} (S : St l ty ρ N0) (a1 : Int32) (a2 : Int32)  (σ : Sg) (r : (Int32 × Sg)) (h : p_X7_isTrack a1 a2 σ = some r) : AMet l D ty ρ N0 yX7_isTrack (Cond.code yX7_isTrack cX7_isTrack 3 (some .boolean) :: GW) (rmk 4 0 0) [.ref (ρ 20 0), .int a1, .int a2] σ (oI r.1) r.2 := by
  refine am_enter S (by decide) rfl rfl (Nat.le_of_ble_eq_true rfl) ?_
  intro p e s m args below meth c K hX
  have dq := @tat _ _ dt_X7_isTrack
  unfold p_X7_isTrack at h
  show WA p l e _ s m args below meth c D ty ρ N0 3 _ 0 [some (.ref (ρ 20 0)), some (.int a1), some (.int a2)] [] σ 0 0
  refine a_aload_n K (dq 0 rfl) rfl rfl ?_
  refine a_aload_n K (dq 1 rfl) rfl rfl ?_
  refine a_iload_n K (dq 2 rfl) rfl rfl ?_
  refine a_iload_n K (dq 3 rfl) rfl rfl ?_
  obtain ⟨r1, h1, h⟩ := bnd h
  refine a_callVi K (s_X7_areFarms S a1 a2  σ r1 h1) v_20 rfl rfl cw_X7_areFarms ml_X7_107 (by decide) rfl (rest := [.ref (ρ 20 0)]) rfl (Nat.le_of_ble_eq_true rfl) (dq 4 rfl) (by decide) ?_
  refine a_if_eq K (tgt := 14) (dq 5 rfl) rfl (fun c2 => ?_) (fun c2 => ?_)
  · have h := ite_t c2 h
    refine a_iconst K (dq 8 rfl) (v := 1) rfl ?_
    obtain ⟨r3, h3, h⟩ := bnd h
    refine a_callVi K (s_X7_fails S 1  σ r3 h3) v_20 rfl rfl cw_X7_fails ml_X7_146 (by decide) rfl (rest := []) rfl (Nat.le_of_ble_eq_true rfl) (dq 9 rfl) (by decide) ?_
    refine a_if_ne K (tgt := 34) (dq 10 rfl) rfl (fun c4 => ?_) (fun c4 => ?_)
    · have h := ite_f c4 h
      refine a_iconst K (dq 18 rfl) (v := 0) rfl ?_
      obtain rfl := Option.some.inj h
      exact a_iret K rfl rfl (dq 19 rfl) (Nat.le_of_ble_eq_true rfl) (Nat.le_of_ble_eq_true rfl) rfl rfl
    · have h := ite_t c4 h
      refine a_aload_n K (dq 11 rfl) rfl rfl ?_
      refine a_iload_n K (dq 12 rfl) rfl rfl ?_
      refine a_iload_n K (dq 13 rfl) rfl rfl ?_
      obtain ⟨r5, h5, h⟩ := bnd h
      refine a_callVi K (s_X7_isLaid S a1 a2  r3.2 r5 h5) v_20 rfl rfl cw_X7_isLaid ml_X7_124 (by decide) rfl (rest := []) rfl (Nat.le_of_ble_eq_true rfl) (dq 14 rfl) (by decide) ?_
      refine a_if_eq K (tgt := 34) (dq 15 rfl) rfl (fun c6 => ?_) (fun c6 => ?_)
      · have h := ite_t c6 h
        refine a_iconst K (dq 18 rfl) (v := 0) rfl ?_
        obtain rfl := Option.some.inj h
        exact a_iret K rfl rfl (dq 19 rfl) (Nat.le_of_ble_eq_true rfl) (Nat.le_of_ble_eq_true rfl) rfl rfl
      · have h := ite_f c6 h
        refine a_iconst K (dq 16 rfl) (v := 1) rfl ?_
        refine a_goto K (tgt := 35) (dq 17 rfl) rfl ?_
        obtain rfl := Option.some.inj h
        exact a_iret K rfl rfl (dq 19 rfl) (Nat.le_of_ble_eq_true rfl) (Nat.le_of_ble_eq_true rfl) rfl rfl
  · have h := ite_f c2 h
    refine a_iconst K (dq 6 rfl) (v := 0) rfl ?_
    refine a_goto K (tgt := 15) (dq 7 rfl) rfl ?_
    obtain ⟨r7, h7, h⟩ := bnd h
    refine a_callVi K (s_X7_fails S 0  σ r7 h7) v_20 rfl rfl cw_X7_fails ml_X7_146 (by decide) rfl (rest := []) rfl (Nat.le_of_ble_eq_true rfl) (dq 9 rfl) (by decide) ?_
    refine a_if_ne K (tgt := 34) (dq 10 rfl) rfl (fun c8 => ?_) (fun c8 => ?_)
    · have h := ite_f c8 h
      refine a_iconst K (dq 18 rfl) (v := 0) rfl ?_
      obtain rfl := Option.some.inj h
      exact a_iret K rfl rfl (dq 19 rfl) (Nat.le_of_ble_eq_true rfl) (Nat.le_of_ble_eq_true rfl) rfl rfl
    · have h := ite_t c8 h
      refine a_aload_n K (dq 11 rfl) rfl rfl ?_
      refine a_iload_n K (dq 12 rfl) rfl rfl ?_
      refine a_iload_n K (dq 13 rfl) rfl rfl ?_
      obtain ⟨r9, h9, h⟩ := bnd h
      refine a_callVi K (s_X7_isLaid S a1 a2  r7.2 r9 h9) v_20 rfl rfl cw_X7_isLaid ml_X7_124 (by decide) rfl (rest := []) rfl (Nat.le_of_ble_eq_true rfl) (dq 14 rfl) (by decide) ?_
      refine a_if_eq K (tgt := 34) (dq 15 rfl) rfl (fun c10 => ?_) (fun c10 => ?_)
      · have h := ite_t c10 h
        refine a_iconst K (dq 18 rfl) (v := 0) rfl ?_
        obtain rfl := Option.some.inj h
        exact a_iret K rfl rfl (dq 19 rfl) (Nat.le_of_ble_eq_true rfl) (Nat.le_of_ble_eq_true rfl) rfl rfl
      · have h := ite_f c10 h
        refine a_iconst K (dq 16 rfl) (v := 1) rfl ?_
        refine a_goto K (tgt := 35) (dq 17 rfl) rfl ?_
        obtain rfl := Option.some.inj h
        exact a_iret K rfl rfl (dq 19 rfl) (Nat.le_of_ble_eq_true rfl) (Nat.le_of_ble_eq_true rfl) rfl rfl
def t_X7_exposed : List (Nat × Instr × Nat) := [(0, .aload_n 0, 1), (1, .aload_n 0, 1), (2, .iload_n 1, 1), (3, .invokevirtual 103, 3), (6, .ifCond .eq 7, 3), (9, .iconst 0, 1), (10, .goto 4, 3), (13, .iconst 1, 1), (14, .invokevirtual 146, 3), (17, .ifCond .eq 5, 3), (20, .iconst 0, 1), (21, .ireturn, 1), (22, .aload_n 0, 1), (23, .iload_n 1, 1), (24, .invokevirtual 73, 3), (27, .istore_n 3, 1), (28, .iconst 0, 1), (29, .istore 4, 2), (31, .iload 4, 2), (33, .iload_n 2, 1), (34, .if_icmp .ge 19, 3), (37, .iload_n 3, 1), (38, .ifCond .lt 15, 3), (41, .aload_n 0, 1), (42, .iload_n 3, 1), (43, .invokevirtual 130, 3), (46, .istore_n 3, 1), (47, .iinc 4 1, 3), (50, .goto (-19), 3), (53, .aload_n 0, 1), (54, .iload_n 2, 1), (55, .ifCond .lt 7, 3), (58, .iload_n 3, 1), (59, .ifCond .ge 7, 3), (62, .iconst 2, 1), (63, .goto 4, 3), (66, .iconst 0, 1), (67, .invokevirtual 146, 3), (70, .ifCond .eq 7, 3), (73, .iconst 0, 1), (74, .goto 4, 3), (77, .iload_n 3, 1), (78, .ireturn, 1)]
theorem dt_X7_exposed : tblOK cX7_exposed t_X7_exposed = true := by decide +kernel
def p_X7_exposed_L31  : Nat → Int32 → Int32 → Int32 → Sg → Option ((Int32 × Sg))
  | 0, _, _, _, _ => none
  | n + 1, v2, v3, v4, σ => if v2 ≤ v4 then (if v2 < 0 then ((p_X7_fails 2 σ).bind fun r8 => if r8.1 = 0 then (some (v3, r8.2)) else (some (0, r8.2))) else (if 0 ≤ v3 then ((p_X7_fails 0 σ).bind fun r11 => if r11.1 = 0 then (some (v3, r11.2)) else (some (0, r11.2))) else ((p_X7_fails 2 σ).bind fun r13 => if r13.1 = 0 then (some (v3, r13.2)) else (some (0, r13.2))))) else (if v3 < 0 then (if v2 < 0 then ((p_X7_fails 2 σ).bind fun r17 => if r17.1 = 0 then (some (v3, r17.2)) else (some (0, r17.2))) else (if 0 ≤ v3 then ((p_X7_fails 0 σ).bind fun r20 => if r20.1 = 0 then (some (v3, r20.2)) else (some (0, r20.2))) else ((p_X7_fails 2 σ).bind fun r22 => if r22.1 = 0 then (some (v3, r22.2)) else (some (0, r22.2))))) else ((p_X7_prefers v3 σ).bind fun r24 => p_X7_exposed_L31 n v2 r24 (v4 + 1) σ))
def p_X7_exposed (a1 : Int32) (a2 : Int32) (σ : Sg) : Option (Int32 × Sg) :=
  (p_X7_isFarm a1 σ).bind fun r1 => if r1 = 0 then ((p_X7_fails 1 σ).bind fun r3 => if r3.1 = 0 then ((p_X7_rootOf a1 r3.2).bind fun r5 => p_X7_exposed_L31 400 a2 r5 0 r3.2) else (some (0, r3.2))) else ((p_X7_fails 0 σ).bind fun r25 => if r25.1 = 0 then ((p_X7_rootOf a1 r25.2).bind fun r27 => p_X7_exposed_L31 400 a2 r27 0 r25.2) else (some (0, r25.2)))
set_option maxRecDepth 20000 in
set_option maxHeartbeats 1000000 in
theorem s_X7_exposed_L31 {l : Launch} {D : va_G} {ty : Nat → ClassId} {ρ : Nat → Nat → Nat} {N0 : Nat} (S : St l ty ρ N0)   : ∀ (n : Nat) (v2 : Int32) (v3 : Int32) (v4 : Int32) (σ : Sg) (r : (Int32 × Sg)) (h : p_X7_exposed_L31  n v2 v3 v4 σ = some r) {p : Program} {e : Env} {s : State} {m : MethodId} {args : Array Value} {below : List Frame} {meth : Method} {c : Code} (K : Cx p l s m args meth c cX7_exposed 5 RX7 (some .int) D ty ρ N0) (hX : ∀ x ∈ c.exceptionTable.toList, False), WA p l e (rmk 3 0 0) s m args below meth c D ty ρ N0 5 (vx_MQ below (oQ D ty ρ N0 (oI r.1) r.2) (oX D ty ρ N0 (oI r.1) r.2) args s 0 0 (fun q => N0 ≤ q)) 31 [some (.ref (ρ 20 0)), none, some (.int v2), some (.int v3), some (.int v4)] [] σ 0 0 := by
  intro n
  induction n with
  | zero =>
    intro v2 v3 v4 σ r h
    simp only [p_X7_exposed_L31] at h
    cases h
  | succ n ih =>
    intro v2 v3 v4 σ r h p e s m args below meth c K hX
    have dq := @tat _ _ dt_X7_exposed
    rw [p_X7_exposed_L31] at h
    refine a_iload K (dq 18 rfl) rfl ?_
    refine a_iload_n K (dq 19 rfl) rfl rfl ?_
    refine a_icmp_ge K (tgt := 53) (dq 20 rfl) rfl (fun c6 => ?_) (fun c6 => ?_)
    · have h := ite_t c6 h
      refine a_aload_n K (dq 29 rfl) rfl rfl ?_
      refine a_iload_n K (dq 30 rfl) rfl rfl ?_
      refine a_if_lt K (tgt := 62) (dq 31 rfl) rfl (fun c7 => ?_) (fun c7 => ?_)
      · have h := ite_t c7 h
        refine a_iconst K (dq 34 rfl) (v := 2) rfl ?_
        refine a_goto K (tgt := 67) (dq 35 rfl) rfl ?_
        obtain ⟨r8, h8, h⟩ := bnd h
        refine a_callVi K (s_X7_fails S 2  σ r8 h8) v_20 rfl rfl cw_X7_fails ml_X7_146 (by decide) rfl (rest := []) rfl (Nat.le_of_ble_eq_true rfl) (dq 37 rfl) (by decide) ?_
        refine a_if_eq K (tgt := 77) (dq 38 rfl) rfl (fun c9 => ?_) (fun c9 => ?_)
        · have h := ite_t c9 h
          refine a_iload_n K (dq 41 rfl) rfl rfl ?_
          obtain rfl := Option.some.inj h
          exact a_iret K rfl rfl (dq 42 rfl) (Nat.le_of_ble_eq_true rfl) (Nat.le_of_ble_eq_true rfl) rfl rfl
        · have h := ite_f c9 h
          refine a_iconst K (dq 39 rfl) (v := 0) rfl ?_
          refine a_goto K (tgt := 78) (dq 40 rfl) rfl ?_
          obtain rfl := Option.some.inj h
          exact a_iret K rfl rfl (dq 42 rfl) (Nat.le_of_ble_eq_true rfl) (Nat.le_of_ble_eq_true rfl) rfl rfl
      · have h := ite_f c7 h
        refine a_iload_n K (dq 32 rfl) rfl rfl ?_
        refine a_if_ge K (tgt := 66) (dq 33 rfl) rfl (fun c10 => ?_) (fun c10 => ?_)
        · have h := ite_t c10 h
          refine a_iconst K (dq 36 rfl) (v := 0) rfl ?_
          obtain ⟨r11, h11, h⟩ := bnd h
          refine a_callVi K (s_X7_fails S 0  σ r11 h11) v_20 rfl rfl cw_X7_fails ml_X7_146 (by decide) rfl (rest := []) rfl (Nat.le_of_ble_eq_true rfl) (dq 37 rfl) (by decide) ?_
          refine a_if_eq K (tgt := 77) (dq 38 rfl) rfl (fun c12 => ?_) (fun c12 => ?_)
          · have h := ite_t c12 h
            refine a_iload_n K (dq 41 rfl) rfl rfl ?_
            obtain rfl := Option.some.inj h
            exact a_iret K rfl rfl (dq 42 rfl) (Nat.le_of_ble_eq_true rfl) (Nat.le_of_ble_eq_true rfl) rfl rfl
          · have h := ite_f c12 h
            refine a_iconst K (dq 39 rfl) (v := 0) rfl ?_
            refine a_goto K (tgt := 78) (dq 40 rfl) rfl ?_
            obtain rfl := Option.some.inj h
            exact a_iret K rfl rfl (dq 42 rfl) (Nat.le_of_ble_eq_true rfl) (Nat.le_of_ble_eq_true rfl) rfl rfl
        · have h := ite_f c10 h
          refine a_iconst K (dq 34 rfl) (v := 2) rfl ?_
          refine a_goto K (tgt := 67) (dq 35 rfl) rfl ?_
          obtain ⟨r13, h13, h⟩ := bnd h
          refine a_callVi K (s_X7_fails S 2  σ r13 h13) v_20 rfl rfl cw_X7_fails ml_X7_146 (by decide) rfl (rest := []) rfl (Nat.le_of_ble_eq_true rfl) (dq 37 rfl) (by decide) ?_
          refine a_if_eq K (tgt := 77) (dq 38 rfl) rfl (fun c14 => ?_) (fun c14 => ?_)
          · have h := ite_t c14 h
            refine a_iload_n K (dq 41 rfl) rfl rfl ?_
            obtain rfl := Option.some.inj h
            exact a_iret K rfl rfl (dq 42 rfl) (Nat.le_of_ble_eq_true rfl) (Nat.le_of_ble_eq_true rfl) rfl rfl
          · have h := ite_f c14 h
            refine a_iconst K (dq 39 rfl) (v := 0) rfl ?_
            refine a_goto K (tgt := 78) (dq 40 rfl) rfl ?_
            obtain rfl := Option.some.inj h
            exact a_iret K rfl rfl (dq 42 rfl) (Nat.le_of_ble_eq_true rfl) (Nat.le_of_ble_eq_true rfl) rfl rfl
    · have h := ite_f c6 h
      refine a_iload_n K (dq 21 rfl) rfl rfl ?_
      refine a_if_lt K (tgt := 53) (dq 22 rfl) rfl (fun c15 => ?_) (fun c15 => ?_)
      · have h := ite_t c15 h
        refine a_aload_n K (dq 29 rfl) rfl rfl ?_
        refine a_iload_n K (dq 30 rfl) rfl rfl ?_
        refine a_if_lt K (tgt := 62) (dq 31 rfl) rfl (fun c16 => ?_) (fun c16 => ?_)
        · have h := ite_t c16 h
          refine a_iconst K (dq 34 rfl) (v := 2) rfl ?_
          refine a_goto K (tgt := 67) (dq 35 rfl) rfl ?_
          obtain ⟨r17, h17, h⟩ := bnd h
          refine a_callVi K (s_X7_fails S 2  σ r17 h17) v_20 rfl rfl cw_X7_fails ml_X7_146 (by decide) rfl (rest := []) rfl (Nat.le_of_ble_eq_true rfl) (dq 37 rfl) (by decide) ?_
          refine a_if_eq K (tgt := 77) (dq 38 rfl) rfl (fun c18 => ?_) (fun c18 => ?_)
          · have h := ite_t c18 h
            refine a_iload_n K (dq 41 rfl) rfl rfl ?_
            obtain rfl := Option.some.inj h
            exact a_iret K rfl rfl (dq 42 rfl) (Nat.le_of_ble_eq_true rfl) (Nat.le_of_ble_eq_true rfl) rfl rfl
          · have h := ite_f c18 h
            refine a_iconst K (dq 39 rfl) (v := 0) rfl ?_
            refine a_goto K (tgt := 78) (dq 40 rfl) rfl ?_
            obtain rfl := Option.some.inj h
            exact a_iret K rfl rfl (dq 42 rfl) (Nat.le_of_ble_eq_true rfl) (Nat.le_of_ble_eq_true rfl) rfl rfl
        · have h := ite_f c16 h
          refine a_iload_n K (dq 32 rfl) rfl rfl ?_
          refine a_if_ge K (tgt := 66) (dq 33 rfl) rfl (fun c19 => ?_) (fun c19 => ?_)
          · have h := ite_t c19 h
            refine a_iconst K (dq 36 rfl) (v := 0) rfl ?_
            obtain ⟨r20, h20, h⟩ := bnd h
            refine a_callVi K (s_X7_fails S 0  σ r20 h20) v_20 rfl rfl cw_X7_fails ml_X7_146 (by decide) rfl (rest := []) rfl (Nat.le_of_ble_eq_true rfl) (dq 37 rfl) (by decide) ?_
            refine a_if_eq K (tgt := 77) (dq 38 rfl) rfl (fun c21 => ?_) (fun c21 => ?_)
            · have h := ite_t c21 h
              refine a_iload_n K (dq 41 rfl) rfl rfl ?_
              obtain rfl := Option.some.inj h
              exact a_iret K rfl rfl (dq 42 rfl) (Nat.le_of_ble_eq_true rfl) (Nat.le_of_ble_eq_true rfl) rfl rfl
            · have h := ite_f c21 h
              refine a_iconst K (dq 39 rfl) (v := 0) rfl ?_
              refine a_goto K (tgt := 78) (dq 40 rfl) rfl ?_
              obtain rfl := Option.some.inj h
              exact a_iret K rfl rfl (dq 42 rfl) (Nat.le_of_ble_eq_true rfl) (Nat.le_of_ble_eq_true rfl) rfl rfl
          · have h := ite_f c19 h
            refine a_iconst K (dq 34 rfl) (v := 2) rfl ?_
            refine a_goto K (tgt := 67) (dq 35 rfl) rfl ?_
            obtain ⟨r22, h22, h⟩ := bnd h
            refine a_callVi K (s_X7_fails S 2  σ r22 h22) v_20 rfl rfl cw_X7_fails ml_X7_146 (by decide) rfl (rest := []) rfl (Nat.le_of_ble_eq_true rfl) (dq 37 rfl) (by decide) ?_
            refine a_if_eq K (tgt := 77) (dq 38 rfl) rfl (fun c23 => ?_) (fun c23 => ?_)
            · have h := ite_t c23 h
              refine a_iload_n K (dq 41 rfl) rfl rfl ?_
              obtain rfl := Option.some.inj h
              exact a_iret K rfl rfl (dq 42 rfl) (Nat.le_of_ble_eq_true rfl) (Nat.le_of_ble_eq_true rfl) rfl rfl
            · have h := ite_f c23 h
              refine a_iconst K (dq 39 rfl) (v := 0) rfl ?_
              refine a_goto K (tgt := 78) (dq 40 rfl) rfl ?_
              obtain rfl := Option.some.inj h
              exact a_iret K rfl rfl (dq 42 rfl) (Nat.le_of_ble_eq_true rfl) (Nat.le_of_ble_eq_true rfl) rfl rfl
      · have h := ite_f c15 h
        refine a_aload_n K (dq 23 rfl) rfl rfl ?_
        refine a_iload_n K (dq 24 rfl) rfl rfl ?_
        obtain ⟨r24, h24, h⟩ := bnd h
        refine a_callVi K (s_X7_prefers S v3  σ r24 h24) v_20 rfl rfl cw_X7_prefers ml_X7_130 (by decide) rfl (rest := []) rfl (Nat.le_of_ble_eq_true rfl) (dq 25 rfl) (by decide) ?_
        refine a_istore_n K (dq 26 rfl) rfl (Nat.le_of_ble_eq_true rfl) (ls' := [some (.ref (ρ 20 0)), none, some (.int v2), some (.int r24), some (.int v4)]) rfl ?_
        refine a_iinc K (dq 27 rfl) rfl (v := (v4 + 1)) rfl (Nat.le_of_ble_eq_true rfl) (ls' := [some (.ref (ρ 20 0)), none, some (.int v2), some (.int r24), some (.int (v4 + 1))]) rfl ?_
        refine a_goto K (tgt := 31) (dq 28 rfl) rfl ?_
        exact ih v2 r24 (v4 + 1) σ r h K hX
set_option maxRecDepth 20000 in
set_option maxHeartbeats 1000000 in
theorem s_X7_exposed {l : Launch} {D : va_G} {ty : Nat → ClassId} {ρ : Nat → Nat → Nat} {N0 : Nat} (S : St l ty ρ N0) (a1 : Int32) (a2 : Int32)  (σ : Sg) (r : (Int32 × Sg)) (h : p_X7_exposed a1 a2 σ = some r) : AMet l D ty ρ N0 yX7_exposed (Cond.code yX7_exposed cX7_exposed 5 (some .int) :: GW) (rmk 3 0 0) [.ref (ρ 20 0), .int a1, .int a2] σ (oI r.1) r.2 := by
  refine am_enter S (by decide) rfl rfl (Nat.le_of_ble_eq_true rfl) ?_
  intro p e s m args below meth c K hX
  have dq := @tat _ _ dt_X7_exposed
  unfold p_X7_exposed at h
  show WA p l e _ s m args below meth c D ty ρ N0 5 _ 0 [some (.ref (ρ 20 0)), some (.int a1), some (.int a2), none, none] [] σ 0 0
  refine a_aload_n K (dq 0 rfl) rfl rfl ?_
  refine a_aload_n K (dq 1 rfl) rfl rfl ?_
  refine a_iload_n K (dq 2 rfl) rfl rfl ?_
  obtain ⟨r1, h1, h⟩ := bnd h
  refine a_callVi K (s_X7_isFarm S a1  σ r1 h1) v_20 rfl rfl cw_X7_isFarm ml_X7_103 (by decide) rfl (rest := [.ref (ρ 20 0)]) rfl (Nat.le_of_ble_eq_true rfl) (dq 3 rfl) (by decide) ?_
  refine a_if_eq K (tgt := 13) (dq 4 rfl) rfl (fun c2 => ?_) (fun c2 => ?_)
  · have h := ite_t c2 h
    refine a_iconst K (dq 7 rfl) (v := 1) rfl ?_
    obtain ⟨r3, h3, h⟩ := bnd h
    refine a_callVi K (s_X7_fails S 1  σ r3 h3) v_20 rfl rfl cw_X7_fails ml_X7_146 (by decide) rfl (rest := []) rfl (Nat.le_of_ble_eq_true rfl) (dq 8 rfl) (by decide) ?_
    refine a_if_eq K (tgt := 22) (dq 9 rfl) rfl (fun c4 => ?_) (fun c4 => ?_)
    · have h := ite_t c4 h
      refine a_aload_n K (dq 12 rfl) rfl rfl ?_
      refine a_iload_n K (dq 13 rfl) rfl rfl ?_
      obtain ⟨r5, h5, h⟩ := bnd h
      refine a_callVi K (s_X7_rootOf S a1  r3.2 r5 h5) v_20 rfl rfl cw_X7_rootOf ml_X7_73 (by decide) rfl (rest := []) rfl (Nat.le_of_ble_eq_true rfl) (dq 14 rfl) (by decide) ?_
      refine a_istore_n K (dq 15 rfl) rfl (Nat.le_of_ble_eq_true rfl) (ls' := [some (.ref (ρ 20 0)), some (.int a1), some (.int a2), some (.int r5), none]) rfl ?_
      refine a_iconst K (dq 16 rfl) (v := 0) rfl ?_
      refine a_istore K (dq 17 rfl) (Nat.le_of_ble_eq_true rfl) (ls' := [some (.ref (ρ 20 0)), some (.int a1), some (.int a2), some (.int r5), some (.int 0)]) rfl ?_
      refine a_le2 (ls' := [some (.ref (ρ 20 0)), none, some (.int a2), some (.int r5), some (.int 0)]) ⟨rfl, rfl, rfl, rfl, trivial⟩ ?_
      exact s_X7_exposed_L31 S    400 a2 r5 0 r3.2 r h K hX
    · have h := ite_f c4 h
      refine a_iconst K (dq 10 rfl) (v := 0) rfl ?_
      obtain rfl := Option.some.inj h
      exact a_iret K rfl rfl (dq 11 rfl) (Nat.le_of_ble_eq_true rfl) (Nat.le_of_ble_eq_true rfl) rfl rfl
  · have h := ite_f c2 h
    refine a_iconst K (dq 5 rfl) (v := 0) rfl ?_
    refine a_goto K (tgt := 14) (dq 6 rfl) rfl ?_
    obtain ⟨r25, h25, h⟩ := bnd h
    refine a_callVi K (s_X7_fails S 0  σ r25 h25) v_20 rfl rfl cw_X7_fails ml_X7_146 (by decide) rfl (rest := []) rfl (Nat.le_of_ble_eq_true rfl) (dq 8 rfl) (by decide) ?_
    refine a_if_eq K (tgt := 22) (dq 9 rfl) rfl (fun c26 => ?_) (fun c26 => ?_)
    · have h := ite_t c26 h
      refine a_aload_n K (dq 12 rfl) rfl rfl ?_
      refine a_iload_n K (dq 13 rfl) rfl rfl ?_
      obtain ⟨r27, h27, h⟩ := bnd h
      refine a_callVi K (s_X7_rootOf S a1  r25.2 r27 h27) v_20 rfl rfl cw_X7_rootOf ml_X7_73 (by decide) rfl (rest := []) rfl (Nat.le_of_ble_eq_true rfl) (dq 14 rfl) (by decide) ?_
      refine a_istore_n K (dq 15 rfl) rfl (Nat.le_of_ble_eq_true rfl) (ls' := [some (.ref (ρ 20 0)), some (.int a1), some (.int a2), some (.int r27), none]) rfl ?_
      refine a_iconst K (dq 16 rfl) (v := 0) rfl ?_
      refine a_istore K (dq 17 rfl) (Nat.le_of_ble_eq_true rfl) (ls' := [some (.ref (ρ 20 0)), some (.int a1), some (.int a2), some (.int r27), some (.int 0)]) rfl ?_
      refine a_le2 (ls' := [some (.ref (ρ 20 0)), none, some (.int a2), some (.int r27), some (.int 0)]) ⟨rfl, rfl, rfl, rfl, trivial⟩ ?_
      exact s_X7_exposed_L31 S    400 a2 r27 0 r25.2 r h K hX
    · have h := ite_f c26 h
      refine a_iconst K (dq 10 rfl) (v := 0) rfl ?_
      obtain rfl := Option.some.inj h
      exact a_iret K rfl rfl (dq 11 rfl) (Nat.le_of_ble_eq_true rfl) (Nat.le_of_ble_eq_true rfl) rfl rfl
def t_X7_ranked : List (Nat × Instr × Nat) := [(0, .iconst 0, 1), (1, .istore_n 2, 1), (2, .iload_n 2, 1), (3, .aload_n 0, 1), (4, .getfield 7, 3), (7, .iconst 0, 1), (8, .iaload, 1), (9, .if_icmp .ge 64, 3), (12, .iconst 0, 1), (13, .istore_n 3, 1), (14, .iconst 0, 1), (15, .istore 4, 2), (17, .iload 4, 2), (19, .aload_n 0, 1), (20, .getfield 7, 3), (23, .iconst 0, 1), (24, .iaload, 1), (25, .if_icmp .ge 27, 3), (28, .iload_n 3, 1), (29, .aload_n 0, 1), (30, .iload 4, 2), (32, .iload_n 2, 1), (33, .invokevirtual 167, 3), (36, .ifCond .eq 7, 3), (39, .iconst 1, 1), (40, .goto 4, 3), (43, .iconst 0, 1), (44, .iadd, 1), (45, .istore_n 3, 1), (46, .iinc 4 1, 3), (49, .goto (-32), 3), (52, .iload_n 3, 1), (53, .iload_n 1, 1), (54, .if_icmp .eq 6, 3), (57, .goto 10, 3), (60, .aload_n 0, 1), (61, .iconst 0, 1), (62, .putfield 39, 3), (65, .iload_n 2, 1), (66, .ireturn, 1), (67, .iinc 2 1, 3), (70, .goto (-68), 3), (73, .aload_n 0, 1), (74, .iconst 1, 1), (75, .putfield 39, 3), (78, .iconst 0, 1), (79, .ireturn, 1)]
theorem dt_X7_ranked : tblOK cX7_ranked t_X7_ranked = true := by decide +kernel
def p_X7_ranked_L17  (kf : Int32 → Int32 → Sg → Option ((Int32 × Sg))) : Nat → Int32 → Int32 → Int32 → Int32 → Sg → Option ((Int32 × Sg))
  | 0, _, _, _, _, _ => none
  | n + 1, v1, v2, v3, v4, σ => if (gA σ 21 0 0) ≤ v4 then (if v3 = v1 then (some (v2, sI σ 20 0 8 0)) else (kf v1 (v2 + 1) σ)) else ((p_X7_isAhead v4 v2 σ).bind fun r4 => if r4 = 0 then (p_X7_ranked_L17 kf n v1 v2 (v3 + 0) (v4 + 1) σ) else (p_X7_ranked_L17 kf n v1 v2 (v3 + 1) (v4 + 1) σ))
def p_X7_ranked_L2  : Nat → Int32 → Int32 → Sg → Option ((Int32 × Sg))
  | 0, _, _, _ => none
  | n + 1, v1, v2, σ => if (gA σ 21 0 0) ≤ v2 then (some (0, sI σ 20 0 8 1)) else (p_X7_ranked_L17 (p_X7_ranked_L2  n) 400 v1 v2 0 0 σ)
def p_X7_ranked (a1 : Int32) (σ : Sg) : Option (Int32 × Sg) :=
  p_X7_ranked_L2 400 a1 0 σ
set_option maxRecDepth 20000 in
set_option maxHeartbeats 1000000 in
theorem s_X7_ranked_L17 {l : Launch} {D : va_G} {ty : Nat → ClassId} {ρ : Nat → Nat → Nat} {N0 : Nat} (S : St l ty ρ N0)   (kf : Int32 → Int32 → Sg → Option ((Int32 × Sg))) (hkf : ∀ (v1 : Int32) (v2 : Int32) (σ : Sg) (r : (Int32 × Sg)) (h : kf v1 v2 σ = some r) {p : Program} {e : Env} {s : State} {m : MethodId} {args : Array Value} {below : List Frame} {meth : Method} {c : Code} (K : Cx p l s m args meth c cX7_ranked 5 RX7 (some .int) D ty ρ N0) (hX : ∀ x ∈ c.exceptionTable.toList, False), WA p l e (rmk 5 0 0) s m args below meth c D ty ρ N0 5 (vx_MQ below (oQ D ty ρ N0 (oI r.1) r.2) (oX D ty ρ N0 (oI r.1) r.2) args s 0 0 (fun q => N0 ≤ q)) 2 [some (.ref (ρ 20 0)), some (.int v1), some (.int v2), none, none] [] σ 0 0) : ∀ (n : Nat) (v1 : Int32) (v2 : Int32) (v3 : Int32) (v4 : Int32) (σ : Sg) (r : (Int32 × Sg)) (h : p_X7_ranked_L17  kf n v1 v2 v3 v4 σ = some r) {p : Program} {e : Env} {s : State} {m : MethodId} {args : Array Value} {below : List Frame} {meth : Method} {c : Code} (K : Cx p l s m args meth c cX7_ranked 5 RX7 (some .int) D ty ρ N0) (hX : ∀ x ∈ c.exceptionTable.toList, False), WA p l e (rmk 5 0 0) s m args below meth c D ty ρ N0 5 (vx_MQ below (oQ D ty ρ N0 (oI r.1) r.2) (oX D ty ρ N0 (oI r.1) r.2) args s 0 0 (fun q => N0 ≤ q)) 17 [some (.ref (ρ 20 0)), some (.int v1), some (.int v2), some (.int v3), some (.int v4)] [] σ 0 0 := by
  intro n
  induction n with
  | zero =>
    intro v1 v2 v3 v4 σ r h
    simp only [p_X7_ranked_L17] at h
    cases h
  | succ n ih =>
    intro v1 v2 v3 v4 σ r h p e s m args below meth c K hX
    have dq := @tat _ _ dt_X7_ranked
    rw [p_X7_ranked_L17] at h
    refine a_iload K (dq 12 rfl) rfl ?_
    refine a_aload_n K (dq 13 rfl) rfl rfl ?_
    refine a_get K (T := 20) (i := 0) (k := 0) (v := .ref (ρ 21 0)) v_20 rfl rfl in_X7 (Nat.le_of_ble_eq_true rfl) fl_X7_7 rfl (dq 14 rfl) ?_
    refine a_iconst K (dq 15 rfl) (v := 0) rfl ?_
    refine a_ialdK K (T := 21) (i := 0) (nj := 0) v_21 rfl rfl (ib_in rfl) rfl (dq 16 rfl) ?_
    refine a_icmp_ge K (tgt := 52) (dq 17 rfl) rfl (fun c2 => ?_) (fun c2 => ?_)
    · have h := ite_t c2 h
      refine a_iload_n K (dq 31 rfl) rfl rfl ?_
      refine a_iload_n K (dq 32 rfl) rfl rfl ?_
      refine a_icmp_eq K (tgt := 60) (dq 33 rfl) rfl (fun c3 => ?_) (fun c3 => ?_)
      · have h := ite_t c3 h
        refine a_aload_n K (dq 35 rfl) rfl rfl ?_
        refine a_iconst K (dq 36 rfl) (v := 0) rfl ?_
        refine a_put K (T := 20) (i := 0) (k := 8) v_20 rfl rfl in_X7 tyX7 tyX7_ok nmX7 (Nat.le_of_ble_eq_true rfl) fl_X7_39 rfl rfl (tyX7_ok 8 (by decide)) rfl rfl (dq 37 rfl) ?_
        refine a_iload_n K (dq 38 rfl) rfl rfl ?_
        obtain rfl := Option.some.inj h
        exact a_iret K rfl rfl (dq 39 rfl) (Nat.le_of_ble_eq_true rfl) (Nat.le_of_ble_eq_true rfl) rfl rfl
      · have h := ite_f c3 h
        refine a_goto K (tgt := 67) (dq 34 rfl) rfl ?_
        refine a_iinc K (dq 40 rfl) rfl (v := (v2 + 1)) rfl (Nat.le_of_ble_eq_true rfl) (ls' := [some (.ref (ρ 20 0)), some (.int v1), some (.int (v2 + 1)), some (.int v3), some (.int v4)]) rfl ?_
        refine a_goto K (tgt := 2) (dq 41 rfl) rfl ?_
        refine a_le2 (ls' := [some (.ref (ρ 20 0)), some (.int v1), some (.int (v2 + 1)), none, none]) ⟨rfl, rfl, rfl, trivial⟩ ?_
        exact hkf v1 (v2 + 1) σ r h K hX
    · have h := ite_f c2 h
      refine a_iload_n K (dq 18 rfl) rfl rfl ?_
      refine a_aload_n K (dq 19 rfl) rfl rfl ?_
      refine a_iload K (dq 20 rfl) rfl ?_
      refine a_iload_n K (dq 21 rfl) rfl rfl ?_
      obtain ⟨r4, h4, h⟩ := bnd h
      refine a_callVi K (s_X7_isAhead S v4 v2  σ r4 h4) v_20 rfl rfl cw_X7_isAhead ml_X7_167 (by decide) rfl (rest := [.int v3]) rfl (Nat.le_of_ble_eq_true rfl) (dq 22 rfl) (by decide) ?_
      refine a_if_eq K (tgt := 43) (dq 23 rfl) rfl (fun c5 => ?_) (fun c5 => ?_)
      · have h := ite_t c5 h
        refine a_iconst K (dq 26 rfl) (v := 0) rfl ?_
        refine a_iadd K (dq 27 rfl) ?_
        refine a_istore_n K (dq 28 rfl) rfl (Nat.le_of_ble_eq_true rfl) (ls' := [some (.ref (ρ 20 0)), some (.int v1), some (.int v2), some (.int (v3 + 0)), some (.int v4)]) rfl ?_
        refine a_iinc K (dq 29 rfl) rfl (v := (v4 + 1)) rfl (Nat.le_of_ble_eq_true rfl) (ls' := [some (.ref (ρ 20 0)), some (.int v1), some (.int v2), some (.int (v3 + 0)), some (.int (v4 + 1))]) rfl ?_
        refine a_goto K (tgt := 17) (dq 30 rfl) rfl ?_
        exact ih v1 v2 (v3 + 0) (v4 + 1) σ r h K hX
      · have h := ite_f c5 h
        refine a_iconst K (dq 24 rfl) (v := 1) rfl ?_
        refine a_goto K (tgt := 44) (dq 25 rfl) rfl ?_
        refine a_iadd K (dq 27 rfl) ?_
        refine a_istore_n K (dq 28 rfl) rfl (Nat.le_of_ble_eq_true rfl) (ls' := [some (.ref (ρ 20 0)), some (.int v1), some (.int v2), some (.int (v3 + 1)), some (.int v4)]) rfl ?_
        refine a_iinc K (dq 29 rfl) rfl (v := (v4 + 1)) rfl (Nat.le_of_ble_eq_true rfl) (ls' := [some (.ref (ρ 20 0)), some (.int v1), some (.int v2), some (.int (v3 + 1)), some (.int (v4 + 1))]) rfl ?_
        refine a_goto K (tgt := 17) (dq 30 rfl) rfl ?_
        exact ih v1 v2 (v3 + 1) (v4 + 1) σ r h K hX
set_option maxRecDepth 20000 in
set_option maxHeartbeats 1000000 in
theorem s_X7_ranked_L2 {l : Launch} {D : va_G} {ty : Nat → ClassId} {ρ : Nat → Nat → Nat} {N0 : Nat} (S : St l ty ρ N0)   : ∀ (n : Nat) (v1 : Int32) (v2 : Int32) (σ : Sg) (r : (Int32 × Sg)) (h : p_X7_ranked_L2  n v1 v2 σ = some r) {p : Program} {e : Env} {s : State} {m : MethodId} {args : Array Value} {below : List Frame} {meth : Method} {c : Code} (K : Cx p l s m args meth c cX7_ranked 5 RX7 (some .int) D ty ρ N0) (hX : ∀ x ∈ c.exceptionTable.toList, False), WA p l e (rmk 5 0 0) s m args below meth c D ty ρ N0 5 (vx_MQ below (oQ D ty ρ N0 (oI r.1) r.2) (oX D ty ρ N0 (oI r.1) r.2) args s 0 0 (fun q => N0 ≤ q)) 2 [some (.ref (ρ 20 0)), some (.int v1), some (.int v2), none, none] [] σ 0 0 := by
  intro n
  induction n with
  | zero =>
    intro v1 v2 σ r h
    simp only [p_X7_ranked_L2] at h
    cases h
  | succ n ih =>
    intro v1 v2 σ r h p e s m args below meth c K hX
    have dq := @tat _ _ dt_X7_ranked
    rw [p_X7_ranked_L2] at h
    refine a_iload_n K (dq 2 rfl) rfl rfl ?_
    refine a_aload_n K (dq 3 rfl) rfl rfl ?_
    refine a_get K (T := 20) (i := 0) (k := 0) (v := .ref (ρ 21 0)) v_20 rfl rfl in_X7 (Nat.le_of_ble_eq_true rfl) fl_X7_7 rfl (dq 4 rfl) ?_
    refine a_iconst K (dq 5 rfl) (v := 0) rfl ?_
    refine a_ialdK K (T := 21) (i := 0) (nj := 0) v_21 rfl rfl (ib_in rfl) rfl (dq 6 rfl) ?_
    refine a_icmp_ge K (tgt := 73) (dq 7 rfl) rfl (fun c1 => ?_) (fun c1 => ?_)
    · have h := ite_t c1 h
      refine a_aload_n K (dq 42 rfl) rfl rfl ?_
      refine a_iconst K (dq 43 rfl) (v := 1) rfl ?_
      refine a_put K (T := 20) (i := 0) (k := 8) v_20 rfl rfl in_X7 tyX7 tyX7_ok nmX7 (Nat.le_of_ble_eq_true rfl) fl_X7_39 rfl rfl (tyX7_ok 8 (by decide)) rfl rfl (dq 44 rfl) ?_
      refine a_iconst K (dq 45 rfl) (v := 0) rfl ?_
      obtain rfl := Option.some.inj h
      exact a_iret K rfl rfl (dq 46 rfl) (Nat.le_of_ble_eq_true rfl) (Nat.le_of_ble_eq_true rfl) rfl rfl
    · have h := ite_f c1 h
      refine a_iconst K (dq 8 rfl) (v := 0) rfl ?_
      refine a_istore_n K (dq 9 rfl) rfl (Nat.le_of_ble_eq_true rfl) (ls' := [some (.ref (ρ 20 0)), some (.int v1), some (.int v2), some (.int 0), none]) rfl ?_
      refine a_iconst K (dq 10 rfl) (v := 0) rfl ?_
      refine a_istore K (dq 11 rfl) (Nat.le_of_ble_eq_true rfl) (ls' := [some (.ref (ρ 20 0)), some (.int v1), some (.int v2), some (.int 0), some (.int 0)]) rfl ?_
      exact s_X7_ranked_L17 S  (p_X7_ranked_L2  n) ih  400 v1 v2 0 0 σ r h K hX
set_option maxRecDepth 20000 in
set_option maxHeartbeats 1000000 in
theorem s_X7_ranked {l : Launch} {D : va_G} {ty : Nat → ClassId} {ρ : Nat → Nat → Nat} {N0 : Nat} (S : St l ty ρ N0) (a1 : Int32)  (σ : Sg) (r : (Int32 × Sg)) (h : p_X7_ranked a1 σ = some r) : AMet l D ty ρ N0 yX7_ranked (Cond.code yX7_ranked cX7_ranked 5 (some .int) :: GW) (rmk 5 0 0) [.ref (ρ 20 0), .int a1] σ (oI r.1) r.2 := by
  refine am_enter S (by decide) rfl rfl (Nat.le_of_ble_eq_true rfl) ?_
  intro p e s m args below meth c K hX
  have dq := @tat _ _ dt_X7_ranked
  unfold p_X7_ranked at h
  show WA p l e _ s m args below meth c D ty ρ N0 5 _ 0 [some (.ref (ρ 20 0)), some (.int a1), none, none, none] [] σ 0 0
  refine a_iconst K (dq 0 rfl) (v := 0) rfl ?_
  refine a_istore_n K (dq 1 rfl) rfl (Nat.le_of_ble_eq_true rfl) (ls' := [some (.ref (ρ 20 0)), some (.int a1), some (.int 0), none, none]) rfl ?_
  exact s_X7_ranked_L2 S    400 a1 0 σ r h K hX
def t_X7_commandHere : List (Nat × Instr × Nat) := [(0, .iconst 4, 1), (1, .aload_n 0, 1), (2, .getfield 189, 3), (5, .imul, 1), (6, .istore_n 1, 1), (7, .aload_n 0, 1), (8, .getfield 36, 3), (11, .iload_n 1, 1), (12, .aload_n 0, 1), (13, .invokevirtual 176, 3), (16, .iastore, 1), (17, .aload_n 0, 1), (18, .bipush 102, 2), (20, .invokevirtual 183, 3), (23, .ifCond .eq 12, 3), (26, .aload_n 0, 1), (27, .iload_n 1, 1), (28, .iconst 1, 1), (29, .iadd, 1), (30, .iconst 3, 1), (31, .invokevirtual 180, 3), (34, .ireturn, 1), (35, .aload_n 0, 1), (36, .bipush 108, 2), (38, .invokevirtual 183, 3), (41, .ifCond .ne 12, 3), (44, .aload_n 0, 1), (45, .bipush 99, 2), (47, .invokevirtual 183, 3), (50, .ifCond .eq 9, 3), (53, .aload_n 0, 1), (54, .iload_n 1, 1), (55, .invokevirtual 186, 3), (58, .ireturn, 1), (59, .aload_n 0, 1), (60, .bipush 114, 2), (62, .invokevirtual 183, 3), (65, .ifCond .ne 12, 3), (68, .aload_n 0, 1), (69, .bipush 101, 2), (71, .invokevirtual 183, 3), (74, .ifCond .eq 12, 3), (77, .aload_n 0, 1), (78, .iload_n 1, 1), (79, .iconst 1, 1), (80, .iadd, 1), (81, .iconst 2, 1), (82, .invokevirtual 180, 3), (85, .ireturn, 1), (86, .aload_n 0, 1), (87, .bipush 116, 2), (89, .invokevirtual 183, 3), (92, .ifCond .eq 9, 3), (95, .aload_n 0, 1), (96, .iload_n 1, 1), (97, .invokevirtual 192, 3), (100, .ireturn, 1), (101, .aload_n 0, 1), (102, .bipush 100, 2), (104, .invokevirtual 183, 3), (107, .ifCond .eq 38, 3), (110, .aload_n 0, 1), (111, .iload_n 1, 1), (112, .iconst 1, 1), (113, .iadd, 1), (114, .iconst 1, 1), (115, .invokevirtual 180, 3), (118, .ifCond .eq 27, 3), (121, .aload_n 0, 1), (122, .bipush 62, 2), (124, .invokevirtual 183, 3), (127, .ifCond .eq 18, 3), (130, .aload_n 0, 1), (131, .iload_n 1, 1), (132, .iconst 2, 1), (133, .iadd, 1), (134, .iconst 2, 1), (135, .invokevirtual 180, 3), (138, .ifCond .eq 7, 3), (141, .iconst 1, 1), (142, .goto 4, 3), (145, .iconst 0, 1), (146, .ireturn, 1)]
theorem dt_X7_commandHere : tblOK cX7_commandHere t_X7_commandHere = true := by decide +kernel
def p_X7_commandHere  (σ : Sg) : Option (Int32 × Sg) :=
  (p_X7_here  σ).bind fun r1 => if ib (4 * (gI σ 20 0 21)) 124 then ((p_X7_skips 102 (sA σ 28 0 (4 * (gI σ 20 0 21)).toNatClampNeg r1)).bind fun r3 => if r3.1 = 0 then ((p_X7_skips 108 r3.2).bind fun r5 => if r5.1 = 0 then ((p_X7_skips 99 r5.2).bind fun r8 => if r8.1 = 0 then ((p_X7_skips 114 r8.2).bind fun r10 => if r10.1 = 0 then ((p_X7_skips 101 r10.2).bind fun r13 => if r13.1 = 0 then ((p_X7_skips 116 r13.2).bind fun r15 => if r15.1 = 0 then ((p_X7_skips 100 r15.2).bind fun r17 => if r17.1 = 0 then (some (0, r17.2)) else ((p_X7_figures ((4 * (gI σ 20 0 21)) + 1) 1 r17.2).bind fun r19 => if r19.1 = 0 then (some (0, r19.2)) else ((p_X7_skips 62 r19.2).bind fun r21 => if r21.1 = 0 then (some (0, r21.2)) else ((p_X7_figures ((4 * (gI σ 20 0 21)) + 2) 2 r21.2).bind fun r23 => if r23.1 = 0 then (some (0, r23.2)) else (some (1, r23.2)))))) else ((p_X7_tollHere (4 * (gI σ 20 0 21)) r15.2).bind fun r25 => some (nb r25.1, r25.2))) else ((p_X7_figures ((4 * (gI σ 20 0 21)) + 1) 2 r13.2).bind fun r26 => some (nb r26.1, r26.2))) else ((p_X7_figures ((4 * (gI σ 20 0 21)) + 1) 2 r10.2).bind fun r12 => some (nb r12.1, r12.2))) else ((p_X7_twoHere (4 * (gI σ 20 0 21)) r8.2).bind fun r27 => some (nb r27.1, r27.2))) else ((p_X7_twoHere (4 * (gI σ 20 0 21)) r5.2).bind fun r7 => some (nb r7.1, r7.2))) else ((p_X7_figures ((4 * (gI σ 20 0 21)) + 1) 3 r3.2).bind fun r28 => some (nb r28.1, r28.2))) else none
set_option maxRecDepth 20000 in
set_option maxHeartbeats 1000000 in
theorem s_X7_commandHere {l : Launch} {D : va_G} {ty : Nat → ClassId} {ρ : Nat → Nat → Nat} {N0 : Nat} (S : St l ty ρ N0)   (σ : Sg) (r : (Int32 × Sg)) (h : p_X7_commandHere  σ = some r) : AMet l D ty ρ N0 yX7_commandHere (Cond.code yX7_commandHere cX7_commandHere 2 (some .boolean) :: GW) (rmk 5 0 0) [.ref (ρ 20 0)] σ (oI r.1) r.2 := by
  refine am_enter S (by decide) rfl rfl (Nat.le_of_ble_eq_true rfl) ?_
  intro p e s m args below meth c K hX
  have dq := @tat _ _ dt_X7_commandHere
  unfold p_X7_commandHere at h
  show WA p l e _ s m args below meth c D ty ρ N0 2 _ 0 [some (.ref (ρ 20 0)), none] [] σ 0 0
  refine a_iconst K (dq 0 rfl) (v := 4) rfl ?_
  refine a_aload_n K (dq 1 rfl) rfl rfl ?_
  refine a_get K (T := 20) (i := 0) (k := 21) (v := .int (gI σ 20 0 21)) v_20 rfl rfl in_X7 (Nat.le_of_ble_eq_true rfl) fl_X7_189 rfl (dq 2 rfl) ?_
  refine a_imul K (dq 3 rfl) ?_
  refine a_istore_n K (dq 4 rfl) rfl (Nat.le_of_ble_eq_true rfl) (ls' := [some (.ref (ρ 20 0)), some (.int (4 * (gI σ 20 0 21)))]) rfl ?_
  refine a_aload_n K (dq 5 rfl) rfl rfl ?_
  refine a_get K (T := 20) (i := 0) (k := 20) (v := .ref (ρ 28 0)) v_20 rfl rfl in_X7 (Nat.le_of_ble_eq_true rfl) fl_X7_36 rfl (dq 6 rfl) ?_
  refine a_iload_n K (dq 7 rfl) rfl rfl ?_
  refine a_aload_n K (dq 8 rfl) rfl rfl ?_
  obtain ⟨r1, h1, h⟩ := bnd h
  refine a_callVi K (s_X7_here S   σ r1 h1) v_20 rfl rfl cw_X7_here ml_X7_176 (by decide) rfl (rest := [.int (4 * (gI σ 20 0 21)), .ref (ρ 28 0)]) rfl (Nat.le_of_ble_eq_true rfl) (dq 9 rfl) (by decide) ?_
  obtain ⟨c2, h⟩ := ib_some h
  refine a_iast K (T := 28) (i := 0) v_28 rfl rfl c2 (dq 10 rfl) ?_
  refine a_aload_n K (dq 11 rfl) rfl rfl ?_
  refine a_bipush K (dq 12 rfl) (v := 102) rfl ?_
  obtain ⟨r3, h3, h⟩ := bnd h
  refine a_callVi K (s_X7_skips S 102  (sA σ 28 0 (4 * (gI σ 20 0 21)).toNatClampNeg r1) r3 h3) v_20 rfl rfl cw_X7_skips ml_X7_183 (by decide) rfl (rest := []) rfl (Nat.le_of_ble_eq_true rfl) (dq 13 rfl) (by decide) ?_
  refine a_if_eq K (tgt := 35) (dq 14 rfl) rfl (fun c4 => ?_) (fun c4 => ?_)
  · have h := ite_t c4 h
    refine a_aload_n K (dq 22 rfl) rfl rfl ?_
    refine a_bipush K (dq 23 rfl) (v := 108) rfl ?_
    obtain ⟨r5, h5, h⟩ := bnd h
    refine a_callVi K (s_X7_skips S 108  r3.2 r5 h5) v_20 rfl rfl cw_X7_skips ml_X7_183 (by decide) rfl (rest := []) rfl (Nat.le_of_ble_eq_true rfl) (dq 24 rfl) (by decide) ?_
    refine a_if_ne K (tgt := 53) (dq 25 rfl) rfl (fun c6 => ?_) (fun c6 => ?_)
    · have h := ite_f c6 h
      refine a_aload_n K (dq 30 rfl) rfl rfl ?_
      refine a_iload_n K (dq 31 rfl) rfl rfl ?_
      obtain ⟨r7, h7, h⟩ := bnd h
      refine a_callVi K (s_X7_twoHere S (4 * (gI σ 20 0 21))  r5.2 r7 h7) v_20 rfl rfl cw_X7_twoHere ml_X7_186 (by decide) rfl (rest := []) rfl (Nat.le_of_ble_eq_true rfl) (dq 32 rfl) (by decide) ?_
      obtain rfl := Option.some.inj h
      exact a_iret K rfl rfl (dq 33 rfl) (Nat.le_of_ble_eq_true rfl) (Nat.le_of_ble_eq_true rfl) rfl rfl
    · have h := ite_t c6 h
      refine a_aload_n K (dq 26 rfl) rfl rfl ?_
      refine a_bipush K (dq 27 rfl) (v := 99) rfl ?_
      obtain ⟨r8, h8, h⟩ := bnd h
      refine a_callVi K (s_X7_skips S 99  r5.2 r8 h8) v_20 rfl rfl cw_X7_skips ml_X7_183 (by decide) rfl (rest := []) rfl (Nat.le_of_ble_eq_true rfl) (dq 28 rfl) (by decide) ?_
      refine a_if_eq K (tgt := 59) (dq 29 rfl) rfl (fun c9 => ?_) (fun c9 => ?_)
      · have h := ite_t c9 h
        refine a_aload_n K (dq 34 rfl) rfl rfl ?_
        refine a_bipush K (dq 35 rfl) (v := 114) rfl ?_
        obtain ⟨r10, h10, h⟩ := bnd h
        refine a_callVi K (s_X7_skips S 114  r8.2 r10 h10) v_20 rfl rfl cw_X7_skips ml_X7_183 (by decide) rfl (rest := []) rfl (Nat.le_of_ble_eq_true rfl) (dq 36 rfl) (by decide) ?_
        refine a_if_ne K (tgt := 77) (dq 37 rfl) rfl (fun c11 => ?_) (fun c11 => ?_)
        · have h := ite_f c11 h
          refine a_aload_n K (dq 42 rfl) rfl rfl ?_
          refine a_iload_n K (dq 43 rfl) rfl rfl ?_
          refine a_iconst K (dq 44 rfl) (v := 1) rfl ?_
          refine a_iadd K (dq 45 rfl) ?_
          refine a_iconst K (dq 46 rfl) (v := 2) rfl ?_
          obtain ⟨r12, h12, h⟩ := bnd h
          refine a_callVi K (s_X7_figures S ((4 * (gI σ 20 0 21)) + 1) 2  r10.2 r12 h12) v_20 rfl rfl cw_X7_figures ml_X7_180 (by decide) rfl (rest := []) rfl (Nat.le_of_ble_eq_true rfl) (dq 47 rfl) (by decide) ?_
          obtain rfl := Option.some.inj h
          exact a_iret K rfl rfl (dq 48 rfl) (Nat.le_of_ble_eq_true rfl) (Nat.le_of_ble_eq_true rfl) rfl rfl
        · have h := ite_t c11 h
          refine a_aload_n K (dq 38 rfl) rfl rfl ?_
          refine a_bipush K (dq 39 rfl) (v := 101) rfl ?_
          obtain ⟨r13, h13, h⟩ := bnd h
          refine a_callVi K (s_X7_skips S 101  r10.2 r13 h13) v_20 rfl rfl cw_X7_skips ml_X7_183 (by decide) rfl (rest := []) rfl (Nat.le_of_ble_eq_true rfl) (dq 40 rfl) (by decide) ?_
          refine a_if_eq K (tgt := 86) (dq 41 rfl) rfl (fun c14 => ?_) (fun c14 => ?_)
          · have h := ite_t c14 h
            refine a_aload_n K (dq 49 rfl) rfl rfl ?_
            refine a_bipush K (dq 50 rfl) (v := 116) rfl ?_
            obtain ⟨r15, h15, h⟩ := bnd h
            refine a_callVi K (s_X7_skips S 116  r13.2 r15 h15) v_20 rfl rfl cw_X7_skips ml_X7_183 (by decide) rfl (rest := []) rfl (Nat.le_of_ble_eq_true rfl) (dq 51 rfl) (by decide) ?_
            refine a_if_eq K (tgt := 101) (dq 52 rfl) rfl (fun c16 => ?_) (fun c16 => ?_)
            · have h := ite_t c16 h
              refine a_aload_n K (dq 57 rfl) rfl rfl ?_
              refine a_bipush K (dq 58 rfl) (v := 100) rfl ?_
              obtain ⟨r17, h17, h⟩ := bnd h
              refine a_callVi K (s_X7_skips S 100  r15.2 r17 h17) v_20 rfl rfl cw_X7_skips ml_X7_183 (by decide) rfl (rest := []) rfl (Nat.le_of_ble_eq_true rfl) (dq 59 rfl) (by decide) ?_
              refine a_if_eq K (tgt := 145) (dq 60 rfl) rfl (fun c18 => ?_) (fun c18 => ?_)
              · have h := ite_t c18 h
                refine a_iconst K (dq 81 rfl) (v := 0) rfl ?_
                obtain rfl := Option.some.inj h
                exact a_iret K rfl rfl (dq 82 rfl) (Nat.le_of_ble_eq_true rfl) (Nat.le_of_ble_eq_true rfl) rfl rfl
              · have h := ite_f c18 h
                refine a_aload_n K (dq 61 rfl) rfl rfl ?_
                refine a_iload_n K (dq 62 rfl) rfl rfl ?_
                refine a_iconst K (dq 63 rfl) (v := 1) rfl ?_
                refine a_iadd K (dq 64 rfl) ?_
                refine a_iconst K (dq 65 rfl) (v := 1) rfl ?_
                obtain ⟨r19, h19, h⟩ := bnd h
                refine a_callVi K (s_X7_figures S ((4 * (gI σ 20 0 21)) + 1) 1  r17.2 r19 h19) v_20 rfl rfl cw_X7_figures ml_X7_180 (by decide) rfl (rest := []) rfl (Nat.le_of_ble_eq_true rfl) (dq 66 rfl) (by decide) ?_
                refine a_if_eq K (tgt := 145) (dq 67 rfl) rfl (fun c20 => ?_) (fun c20 => ?_)
                · have h := ite_t c20 h
                  refine a_iconst K (dq 81 rfl) (v := 0) rfl ?_
                  obtain rfl := Option.some.inj h
                  exact a_iret K rfl rfl (dq 82 rfl) (Nat.le_of_ble_eq_true rfl) (Nat.le_of_ble_eq_true rfl) rfl rfl
                · have h := ite_f c20 h
                  refine a_aload_n K (dq 68 rfl) rfl rfl ?_
                  refine a_bipush K (dq 69 rfl) (v := 62) rfl ?_
                  obtain ⟨r21, h21, h⟩ := bnd h
                  refine a_callVi K (s_X7_skips S 62  r19.2 r21 h21) v_20 rfl rfl cw_X7_skips ml_X7_183 (by decide) rfl (rest := []) rfl (Nat.le_of_ble_eq_true rfl) (dq 70 rfl) (by decide) ?_
                  refine a_if_eq K (tgt := 145) (dq 71 rfl) rfl (fun c22 => ?_) (fun c22 => ?_)
                  · have h := ite_t c22 h
                    refine a_iconst K (dq 81 rfl) (v := 0) rfl ?_
                    obtain rfl := Option.some.inj h
                    exact a_iret K rfl rfl (dq 82 rfl) (Nat.le_of_ble_eq_true rfl) (Nat.le_of_ble_eq_true rfl) rfl rfl
                  · have h := ite_f c22 h
                    refine a_aload_n K (dq 72 rfl) rfl rfl ?_
                    refine a_iload_n K (dq 73 rfl) rfl rfl ?_
                    refine a_iconst K (dq 74 rfl) (v := 2) rfl ?_
                    refine a_iadd K (dq 75 rfl) ?_
                    refine a_iconst K (dq 76 rfl) (v := 2) rfl ?_
                    obtain ⟨r23, h23, h⟩ := bnd h
                    refine a_callVi K (s_X7_figures S ((4 * (gI σ 20 0 21)) + 2) 2  r21.2 r23 h23) v_20 rfl rfl cw_X7_figures ml_X7_180 (by decide) rfl (rest := []) rfl (Nat.le_of_ble_eq_true rfl) (dq 77 rfl) (by decide) ?_
                    refine a_if_eq K (tgt := 145) (dq 78 rfl) rfl (fun c24 => ?_) (fun c24 => ?_)
                    · have h := ite_t c24 h
                      refine a_iconst K (dq 81 rfl) (v := 0) rfl ?_
                      obtain rfl := Option.some.inj h
                      exact a_iret K rfl rfl (dq 82 rfl) (Nat.le_of_ble_eq_true rfl) (Nat.le_of_ble_eq_true rfl) rfl rfl
                    · have h := ite_f c24 h
                      refine a_iconst K (dq 79 rfl) (v := 1) rfl ?_
                      refine a_goto K (tgt := 146) (dq 80 rfl) rfl ?_
                      obtain rfl := Option.some.inj h
                      exact a_iret K rfl rfl (dq 82 rfl) (Nat.le_of_ble_eq_true rfl) (Nat.le_of_ble_eq_true rfl) rfl rfl
            · have h := ite_f c16 h
              refine a_aload_n K (dq 53 rfl) rfl rfl ?_
              refine a_iload_n K (dq 54 rfl) rfl rfl ?_
              obtain ⟨r25, h25, h⟩ := bnd h
              refine a_callVi K (s_X7_tollHere S (4 * (gI σ 20 0 21))  r15.2 r25 h25) v_20 rfl rfl cw_X7_tollHere ml_X7_192 (by decide) rfl (rest := []) rfl (Nat.le_of_ble_eq_true rfl) (dq 55 rfl) (by decide) ?_
              obtain rfl := Option.some.inj h
              exact a_iret K rfl rfl (dq 56 rfl) (Nat.le_of_ble_eq_true rfl) (Nat.le_of_ble_eq_true rfl) rfl rfl
          · have h := ite_f c14 h
            refine a_aload_n K (dq 42 rfl) rfl rfl ?_
            refine a_iload_n K (dq 43 rfl) rfl rfl ?_
            refine a_iconst K (dq 44 rfl) (v := 1) rfl ?_
            refine a_iadd K (dq 45 rfl) ?_
            refine a_iconst K (dq 46 rfl) (v := 2) rfl ?_
            obtain ⟨r26, h26, h⟩ := bnd h
            refine a_callVi K (s_X7_figures S ((4 * (gI σ 20 0 21)) + 1) 2  r13.2 r26 h26) v_20 rfl rfl cw_X7_figures ml_X7_180 (by decide) rfl (rest := []) rfl (Nat.le_of_ble_eq_true rfl) (dq 47 rfl) (by decide) ?_
            obtain rfl := Option.some.inj h
            exact a_iret K rfl rfl (dq 48 rfl) (Nat.le_of_ble_eq_true rfl) (Nat.le_of_ble_eq_true rfl) rfl rfl
      · have h := ite_f c9 h
        refine a_aload_n K (dq 30 rfl) rfl rfl ?_
        refine a_iload_n K (dq 31 rfl) rfl rfl ?_
        obtain ⟨r27, h27, h⟩ := bnd h
        refine a_callVi K (s_X7_twoHere S (4 * (gI σ 20 0 21))  r8.2 r27 h27) v_20 rfl rfl cw_X7_twoHere ml_X7_186 (by decide) rfl (rest := []) rfl (Nat.le_of_ble_eq_true rfl) (dq 32 rfl) (by decide) ?_
        obtain rfl := Option.some.inj h
        exact a_iret K rfl rfl (dq 33 rfl) (Nat.le_of_ble_eq_true rfl) (Nat.le_of_ble_eq_true rfl) rfl rfl
  · have h := ite_f c4 h
    refine a_aload_n K (dq 15 rfl) rfl rfl ?_
    refine a_iload_n K (dq 16 rfl) rfl rfl ?_
    refine a_iconst K (dq 17 rfl) (v := 1) rfl ?_
    refine a_iadd K (dq 18 rfl) ?_
    refine a_iconst K (dq 19 rfl) (v := 3) rfl ?_
    obtain ⟨r28, h28, h⟩ := bnd h
    refine a_callVi K (s_X7_figures S ((4 * (gI σ 20 0 21)) + 1) 3  r3.2 r28 h28) v_20 rfl rfl cw_X7_figures ml_X7_180 (by decide) rfl (rest := []) rfl (Nat.le_of_ble_eq_true rfl) (dq 20 rfl) (by decide) ?_
    obtain rfl := Option.some.inj h
    exact a_iret K rfl rfl (dq 21 rfl) (Nat.le_of_ble_eq_true rfl) (Nat.le_of_ble_eq_true rfl) rfl rfl
def t_X7_account : List (Nat × Instr × Nat) := [(0, .aload_n 0, 1), (1, .iload_n 1, 1), (2, .iconst 0, 1), (3, .bipush 9, 2), (5, .invokestatic 65, 3), (8, .ifCond .eq 7, 3), (11, .iconst 0, 1), (12, .goto 4, 3), (15, .iconst 1, 1), (16, .invokevirtual 146, 3), (19, .ifCond .eq 5, 3), (22, .iconst 0, 1), (23, .ireturn, 1), (24, .iload_n 1, 1), (25, .tableswitch 94 0 9 #[55, 62, 74, 79, 94, 94, 94, 94, 84, 89], 55), (80, .aload_n 0, 1), (81, .getfield 7, 3), (84, .iconst 0, 1), (85, .iaload, 1), (86, .ireturn, 1), (87, .aload_n 0, 1), (88, .getfield 7, 3), (91, .iconst 0, 1), (92, .iaload, 1), (93, .aload_n 0, 1), (94, .invokevirtual 248, 3), (97, .isub, 1), (98, .ireturn, 1), (99, .aload_n 0, 1), (100, .invokevirtual 239, 3), (103, .ireturn, 1), (104, .aload_n 0, 1), (105, .invokevirtual 251, 3), (108, .ireturn, 1), (109, .aload_n 0, 1), (110, .getfield 58, 3), (113, .ireturn, 1), (114, .aload_n 0, 1), (115, .getfield 170, 3), (118, .ireturn, 1), (119, .aload_n 0, 1), (120, .getfield 7, 3), (123, .iconst 1, 1), (124, .iload_n 1, 1), (125, .iadd, 1), (126, .iconst 4, 1), (127, .isub, 1), (128, .iaload, 1), (129, .ireturn, 1)]
theorem dt_X7_account : tblOK cX7_account t_X7_account = true := by decide +kernel
def p_X7_account (a1 : Int32) (σ : Sg) : Option (Int32 × Sg) :=
  (p_X7_in a1 0 9 σ).bind fun r1 => if r1 = 0 then ((p_X7_fails 1 σ).bind fun r3 => if r3.1 = 0 then (if a1 = 0 then (some ((gA r3.2 21 0 0), r3.2)) else (if a1 = 1 then ((p_X7_treesNow  r3.2).bind fun r7 => some (((gA r3.2 21 0 0) - r7), r3.2)) else (if a1 = 2 then ((p_X7_tolls  r3.2).bind fun r9 => some (r9, r3.2)) else (if a1 = 3 then ((p_X7_preferring  r3.2).bind fun r11 => some (r11, r3.2)) else (if a1 = 8 then (some ((gI r3.2 20 0 5), r3.2)) else (if a1 = 9 then (some ((gI r3.2 20 0 13), r3.2)) else (if ib ((1 + a1) - 4) 44 then (some ((gA r3.2 21 0 ((1 + a1) - 4).toNatClampNeg), r3.2)) else none))))))) else (some (0, r3.2))) else ((p_X7_fails 0 σ).bind fun r15 => if r15.1 = 0 then (if a1 = 0 then (some ((gA r15.2 21 0 0), r15.2)) else (if a1 = 1 then ((p_X7_treesNow  r15.2).bind fun r19 => some (((gA r15.2 21 0 0) - r19), r15.2)) else (if a1 = 2 then ((p_X7_tolls  r15.2).bind fun r21 => some (r21, r15.2)) else (if a1 = 3 then ((p_X7_preferring  r15.2).bind fun r23 => some (r23, r15.2)) else (if a1 = 8 then (some ((gI r15.2 20 0 5), r15.2)) else (if a1 = 9 then (some ((gI r15.2 20 0 13), r15.2)) else (if ib ((1 + a1) - 4) 44 then (some ((gA r15.2 21 0 ((1 + a1) - 4).toNatClampNeg), r15.2)) else none))))))) else (some (0, r15.2)))
set_option maxRecDepth 20000 in
set_option maxHeartbeats 1000000 in
theorem s_X7_account {l : Launch} {D : va_G} {ty : Nat → ClassId} {ρ : Nat → Nat → Nat} {N0 : Nat} (S : St l ty ρ N0) (a1 : Int32)  (σ : Sg) (r : (Int32 × Sg)) (h : p_X7_account a1 σ = some r) : AMet l D ty ρ N0 yX7_account (Cond.code yX7_account cX7_account 2 (some .int) :: GW) (rmk 3 0 0) [.ref (ρ 20 0), .int a1] σ (oI r.1) r.2 := by
  refine am_enter S (by decide) rfl rfl (Nat.le_of_ble_eq_true rfl) ?_
  intro p e s m args below meth c K hX
  have dq := @tat _ _ dt_X7_account
  unfold p_X7_account at h
  show WA p l e _ s m args below meth c D ty ρ N0 2 _ 0 [some (.ref (ρ 20 0)), some (.int a1)] [] σ 0 0
  refine a_aload_n K (dq 0 rfl) rfl rfl ?_
  refine a_iload_n K (dq 1 rfl) rfl rfl ?_
  refine a_iconst K (dq 2 rfl) (v := 0) rfl ?_
  refine a_bipush K (dq 3 rfl) (v := 9) rfl ?_
  obtain ⟨r1, h1, h⟩ := bnd h
  refine a_callSi K (s_X7_in S a1 0 9  σ r1 h1) cw_X7_in ml_X7_65 (by decide) rfl (rest := [.ref (ρ 20 0)]) rfl (Nat.le_of_ble_eq_true rfl) (dq 4 rfl) (by decide) ?_
  refine a_if_eq K (tgt := 15) (dq 5 rfl) rfl (fun c2 => ?_) (fun c2 => ?_)
  · have h := ite_t c2 h
    refine a_iconst K (dq 8 rfl) (v := 1) rfl ?_
    obtain ⟨r3, h3, h⟩ := bnd h
    refine a_callVi K (s_X7_fails S 1  σ r3 h3) v_20 rfl rfl cw_X7_fails ml_X7_146 (by decide) rfl (rest := []) rfl (Nat.le_of_ble_eq_true rfl) (dq 9 rfl) (by decide) ?_
    refine a_if_eq K (tgt := 24) (dq 10 rfl) rfl (fun c4 => ?_) (fun c4 => ?_)
    · have h := ite_t c4 h
      refine a_iload_n K (dq 13 rfl) rfl rfl ?_
      by_cases c5 : a1 = 0
      · have h := ite_t c5 h
        refine a_tableIn K (off := 55) (tgt := 80) (dq 14 rfl) (by rw [c5]; decide) (by rw [c5]; decide) (by rw [c5]; rfl) rfl ?_
        refine a_aload_n K (dq 15 rfl) rfl rfl ?_
        refine a_get K (T := 20) (i := 0) (k := 0) (v := .ref (ρ 21 0)) v_20 rfl rfl in_X7 (Nat.le_of_ble_eq_true rfl) fl_X7_7 rfl (dq 16 rfl) ?_
        refine a_iconst K (dq 17 rfl) (v := 0) rfl ?_
        refine a_ialdK K (T := 21) (i := 0) (nj := 0) v_21 rfl rfl (ib_in rfl) rfl (dq 18 rfl) ?_
        obtain rfl := Option.some.inj h
        exact a_iret K rfl rfl (dq 19 rfl) (Nat.le_of_ble_eq_true rfl) (Nat.le_of_ble_eq_true rfl) rfl rfl
      · have h := ite_f c5 h
        by_cases c6 : a1 = 1
        · have h := ite_t c6 h
          refine a_tableIn K (off := 62) (tgt := 87) (dq 14 rfl) (by rw [c6]; decide) (by rw [c6]; decide) (by rw [c6]; rfl) rfl ?_
          refine a_aload_n K (dq 20 rfl) rfl rfl ?_
          refine a_get K (T := 20) (i := 0) (k := 0) (v := .ref (ρ 21 0)) v_20 rfl rfl in_X7 (Nat.le_of_ble_eq_true rfl) fl_X7_7 rfl (dq 21 rfl) ?_
          refine a_iconst K (dq 22 rfl) (v := 0) rfl ?_
          refine a_ialdK K (T := 21) (i := 0) (nj := 0) v_21 rfl rfl (ib_in rfl) rfl (dq 23 rfl) ?_
          refine a_aload_n K (dq 24 rfl) rfl rfl ?_
          obtain ⟨r7, h7, h⟩ := bnd h
          refine a_callVi K (s_X7_treesNow S   r3.2 r7 h7) v_20 rfl rfl cw_X7_treesNow ml_X7_248 (by decide) rfl (rest := [.int (gA r3.2 21 0 0)]) rfl (Nat.le_of_ble_eq_true rfl) (dq 25 rfl) (by decide) ?_
          refine a_isub K (dq 26 rfl) ?_
          obtain rfl := Option.some.inj h
          exact a_iret K rfl rfl (dq 27 rfl) (Nat.le_of_ble_eq_true rfl) (Nat.le_of_ble_eq_true rfl) rfl rfl
        · have h := ite_f c6 h
          by_cases c8 : a1 = 2
          · have h := ite_t c8 h
            refine a_tableIn K (off := 74) (tgt := 99) (dq 14 rfl) (by rw [c8]; decide) (by rw [c8]; decide) (by rw [c8]; rfl) rfl ?_
            refine a_aload_n K (dq 28 rfl) rfl rfl ?_
            obtain ⟨r9, h9, h⟩ := bnd h
            refine a_callVi K (s_X7_tolls S   r3.2 r9 h9) v_20 rfl rfl cw_X7_tolls ml_X7_239 (by decide) rfl (rest := []) rfl (Nat.le_of_ble_eq_true rfl) (dq 29 rfl) (by decide) ?_
            obtain rfl := Option.some.inj h
            exact a_iret K rfl rfl (dq 30 rfl) (Nat.le_of_ble_eq_true rfl) (Nat.le_of_ble_eq_true rfl) rfl rfl
          · have h := ite_f c8 h
            by_cases c10 : a1 = 3
            · have h := ite_t c10 h
              refine a_tableIn K (off := 79) (tgt := 104) (dq 14 rfl) (by rw [c10]; decide) (by rw [c10]; decide) (by rw [c10]; rfl) rfl ?_
              refine a_aload_n K (dq 31 rfl) rfl rfl ?_
              obtain ⟨r11, h11, h⟩ := bnd h
              refine a_callVi K (s_X7_preferring S   r3.2 r11 h11) v_20 rfl rfl cw_X7_preferring ml_X7_251 (by decide) rfl (rest := []) rfl (Nat.le_of_ble_eq_true rfl) (dq 32 rfl) (by decide) ?_
              obtain rfl := Option.some.inj h
              exact a_iret K rfl rfl (dq 33 rfl) (Nat.le_of_ble_eq_true rfl) (Nat.le_of_ble_eq_true rfl) rfl rfl
            · have h := ite_f c10 h
              by_cases c12 : a1 = 8
              · have h := ite_t c12 h
                refine a_tableIn K (off := 84) (tgt := 109) (dq 14 rfl) (by rw [c12]; decide) (by rw [c12]; decide) (by rw [c12]; rfl) rfl ?_
                refine a_aload_n K (dq 34 rfl) rfl rfl ?_
                refine a_get K (T := 20) (i := 0) (k := 5) (v := .int (gI r3.2 20 0 5)) v_20 rfl rfl in_X7 (Nat.le_of_ble_eq_true rfl) fl_X7_58 rfl (dq 35 rfl) ?_
                obtain rfl := Option.some.inj h
                exact a_iret K rfl rfl (dq 36 rfl) (Nat.le_of_ble_eq_true rfl) (Nat.le_of_ble_eq_true rfl) rfl rfl
              · have h := ite_f c12 h
                by_cases c13 : a1 = 9
                · have h := ite_t c13 h
                  refine a_tableIn K (off := 89) (tgt := 114) (dq 14 rfl) (by rw [c13]; decide) (by rw [c13]; decide) (by rw [c13]; rfl) rfl ?_
                  refine a_aload_n K (dq 37 rfl) rfl rfl ?_
                  refine a_get K (T := 20) (i := 0) (k := 13) (v := .int (gI r3.2 20 0 13)) v_20 rfl rfl in_X7 (Nat.le_of_ble_eq_true rfl) fl_X7_170 rfl (dq 38 rfl) ?_
                  obtain rfl := Option.some.inj h
                  exact a_iret K rfl rfl (dq 39 rfl) (Nat.le_of_ble_eq_true rfl) (Nat.le_of_ble_eq_true rfl) rfl rfl
                · have h := ite_f c13 h
                  refine a_tableD K (tgt := 119) (dq 14 rfl) ?_ rfl ?_
                  · have := i32ne c5 (k := 0) (by decide); have := i32ne c6 (k := 1) (by decide); have := i32ne c8 (k := 2) (by decide); have := i32ne c10 (k := 3) (by decide); have := i32ne c12 (k := 8) (by decide); have := i32ne c13 (k := 9) (by decide)
                    have hz : (a1).toInt < 0 ∨ 9 < (a1).toInt ∨ (a1).toInt = 4 ∨ (a1).toInt = 5 ∨ (a1).toInt = 6 ∨ (a1).toInt = 7 := by omega
                    rcases hz with q | q | q | q | q | q
                    · exact Or.inl q
                    · exact Or.inr (Or.inl q)
                    · rw [q]; exact Or.inr (Or.inr rfl)
                    · rw [q]; exact Or.inr (Or.inr rfl)
                    · rw [q]; exact Or.inr (Or.inr rfl)
                    · rw [q]; exact Or.inr (Or.inr rfl)
                  refine a_aload_n K (dq 40 rfl) rfl rfl ?_
                  refine a_get K (T := 20) (i := 0) (k := 0) (v := .ref (ρ 21 0)) v_20 rfl rfl in_X7 (Nat.le_of_ble_eq_true rfl) fl_X7_7 rfl (dq 41 rfl) ?_
                  refine a_iconst K (dq 42 rfl) (v := 1) rfl ?_
                  refine a_iload_n K (dq 43 rfl) rfl rfl ?_
                  refine a_iadd K (dq 44 rfl) ?_
                  refine a_iconst K (dq 45 rfl) (v := 4) rfl ?_
                  refine a_isub K (dq 46 rfl) ?_
                  obtain ⟨c14, h⟩ := ib_some h
                  refine a_iald K (T := 21) (i := 0) v_21 rfl rfl c14 (dq 47 rfl) ?_
                  obtain rfl := Option.some.inj h
                  exact a_iret K rfl rfl (dq 48 rfl) (Nat.le_of_ble_eq_true rfl) (Nat.le_of_ble_eq_true rfl) rfl rfl
    · have h := ite_f c4 h
      refine a_iconst K (dq 11 rfl) (v := 0) rfl ?_
      obtain rfl := Option.some.inj h
      exact a_iret K rfl rfl (dq 12 rfl) (Nat.le_of_ble_eq_true rfl) (Nat.le_of_ble_eq_true rfl) rfl rfl
  · have h := ite_f c2 h
    refine a_iconst K (dq 6 rfl) (v := 0) rfl ?_
    refine a_goto K (tgt := 16) (dq 7 rfl) rfl ?_
    obtain ⟨r15, h15, h⟩ := bnd h
    refine a_callVi K (s_X7_fails S 0  σ r15 h15) v_20 rfl rfl cw_X7_fails ml_X7_146 (by decide) rfl (rest := []) rfl (Nat.le_of_ble_eq_true rfl) (dq 9 rfl) (by decide) ?_
    refine a_if_eq K (tgt := 24) (dq 10 rfl) rfl (fun c16 => ?_) (fun c16 => ?_)
    · have h := ite_t c16 h
      refine a_iload_n K (dq 13 rfl) rfl rfl ?_
      by_cases c17 : a1 = 0
      · have h := ite_t c17 h
        refine a_tableIn K (off := 55) (tgt := 80) (dq 14 rfl) (by rw [c17]; decide) (by rw [c17]; decide) (by rw [c17]; rfl) rfl ?_
        refine a_aload_n K (dq 15 rfl) rfl rfl ?_
        refine a_get K (T := 20) (i := 0) (k := 0) (v := .ref (ρ 21 0)) v_20 rfl rfl in_X7 (Nat.le_of_ble_eq_true rfl) fl_X7_7 rfl (dq 16 rfl) ?_
        refine a_iconst K (dq 17 rfl) (v := 0) rfl ?_
        refine a_ialdK K (T := 21) (i := 0) (nj := 0) v_21 rfl rfl (ib_in rfl) rfl (dq 18 rfl) ?_
        obtain rfl := Option.some.inj h
        exact a_iret K rfl rfl (dq 19 rfl) (Nat.le_of_ble_eq_true rfl) (Nat.le_of_ble_eq_true rfl) rfl rfl
      · have h := ite_f c17 h
        by_cases c18 : a1 = 1
        · have h := ite_t c18 h
          refine a_tableIn K (off := 62) (tgt := 87) (dq 14 rfl) (by rw [c18]; decide) (by rw [c18]; decide) (by rw [c18]; rfl) rfl ?_
          refine a_aload_n K (dq 20 rfl) rfl rfl ?_
          refine a_get K (T := 20) (i := 0) (k := 0) (v := .ref (ρ 21 0)) v_20 rfl rfl in_X7 (Nat.le_of_ble_eq_true rfl) fl_X7_7 rfl (dq 21 rfl) ?_
          refine a_iconst K (dq 22 rfl) (v := 0) rfl ?_
          refine a_ialdK K (T := 21) (i := 0) (nj := 0) v_21 rfl rfl (ib_in rfl) rfl (dq 23 rfl) ?_
          refine a_aload_n K (dq 24 rfl) rfl rfl ?_
          obtain ⟨r19, h19, h⟩ := bnd h
          refine a_callVi K (s_X7_treesNow S   r15.2 r19 h19) v_20 rfl rfl cw_X7_treesNow ml_X7_248 (by decide) rfl (rest := [.int (gA r15.2 21 0 0)]) rfl (Nat.le_of_ble_eq_true rfl) (dq 25 rfl) (by decide) ?_
          refine a_isub K (dq 26 rfl) ?_
          obtain rfl := Option.some.inj h
          exact a_iret K rfl rfl (dq 27 rfl) (Nat.le_of_ble_eq_true rfl) (Nat.le_of_ble_eq_true rfl) rfl rfl
        · have h := ite_f c18 h
          by_cases c20 : a1 = 2
          · have h := ite_t c20 h
            refine a_tableIn K (off := 74) (tgt := 99) (dq 14 rfl) (by rw [c20]; decide) (by rw [c20]; decide) (by rw [c20]; rfl) rfl ?_
            refine a_aload_n K (dq 28 rfl) rfl rfl ?_
            obtain ⟨r21, h21, h⟩ := bnd h
            refine a_callVi K (s_X7_tolls S   r15.2 r21 h21) v_20 rfl rfl cw_X7_tolls ml_X7_239 (by decide) rfl (rest := []) rfl (Nat.le_of_ble_eq_true rfl) (dq 29 rfl) (by decide) ?_
            obtain rfl := Option.some.inj h
            exact a_iret K rfl rfl (dq 30 rfl) (Nat.le_of_ble_eq_true rfl) (Nat.le_of_ble_eq_true rfl) rfl rfl
          · have h := ite_f c20 h
            by_cases c22 : a1 = 3
            · have h := ite_t c22 h
              refine a_tableIn K (off := 79) (tgt := 104) (dq 14 rfl) (by rw [c22]; decide) (by rw [c22]; decide) (by rw [c22]; rfl) rfl ?_
              refine a_aload_n K (dq 31 rfl) rfl rfl ?_
              obtain ⟨r23, h23, h⟩ := bnd h
              refine a_callVi K (s_X7_preferring S   r15.2 r23 h23) v_20 rfl rfl cw_X7_preferring ml_X7_251 (by decide) rfl (rest := []) rfl (Nat.le_of_ble_eq_true rfl) (dq 32 rfl) (by decide) ?_
              obtain rfl := Option.some.inj h
              exact a_iret K rfl rfl (dq 33 rfl) (Nat.le_of_ble_eq_true rfl) (Nat.le_of_ble_eq_true rfl) rfl rfl
            · have h := ite_f c22 h
              by_cases c24 : a1 = 8
              · have h := ite_t c24 h
                refine a_tableIn K (off := 84) (tgt := 109) (dq 14 rfl) (by rw [c24]; decide) (by rw [c24]; decide) (by rw [c24]; rfl) rfl ?_
                refine a_aload_n K (dq 34 rfl) rfl rfl ?_
                refine a_get K (T := 20) (i := 0) (k := 5) (v := .int (gI r15.2 20 0 5)) v_20 rfl rfl in_X7 (Nat.le_of_ble_eq_true rfl) fl_X7_58 rfl (dq 35 rfl) ?_
                obtain rfl := Option.some.inj h
                exact a_iret K rfl rfl (dq 36 rfl) (Nat.le_of_ble_eq_true rfl) (Nat.le_of_ble_eq_true rfl) rfl rfl
              · have h := ite_f c24 h
                by_cases c25 : a1 = 9
                · have h := ite_t c25 h
                  refine a_tableIn K (off := 89) (tgt := 114) (dq 14 rfl) (by rw [c25]; decide) (by rw [c25]; decide) (by rw [c25]; rfl) rfl ?_
                  refine a_aload_n K (dq 37 rfl) rfl rfl ?_
                  refine a_get K (T := 20) (i := 0) (k := 13) (v := .int (gI r15.2 20 0 13)) v_20 rfl rfl in_X7 (Nat.le_of_ble_eq_true rfl) fl_X7_170 rfl (dq 38 rfl) ?_
                  obtain rfl := Option.some.inj h
                  exact a_iret K rfl rfl (dq 39 rfl) (Nat.le_of_ble_eq_true rfl) (Nat.le_of_ble_eq_true rfl) rfl rfl
                · have h := ite_f c25 h
                  refine a_tableD K (tgt := 119) (dq 14 rfl) ?_ rfl ?_
                  · have := i32ne c17 (k := 0) (by decide); have := i32ne c18 (k := 1) (by decide); have := i32ne c20 (k := 2) (by decide); have := i32ne c22 (k := 3) (by decide); have := i32ne c24 (k := 8) (by decide); have := i32ne c25 (k := 9) (by decide)
                    have hz : (a1).toInt < 0 ∨ 9 < (a1).toInt ∨ (a1).toInt = 4 ∨ (a1).toInt = 5 ∨ (a1).toInt = 6 ∨ (a1).toInt = 7 := by omega
                    rcases hz with q | q | q | q | q | q
                    · exact Or.inl q
                    · exact Or.inr (Or.inl q)
                    · rw [q]; exact Or.inr (Or.inr rfl)
                    · rw [q]; exact Or.inr (Or.inr rfl)
                    · rw [q]; exact Or.inr (Or.inr rfl)
                    · rw [q]; exact Or.inr (Or.inr rfl)
                  refine a_aload_n K (dq 40 rfl) rfl rfl ?_
                  refine a_get K (T := 20) (i := 0) (k := 0) (v := .ref (ρ 21 0)) v_20 rfl rfl in_X7 (Nat.le_of_ble_eq_true rfl) fl_X7_7 rfl (dq 41 rfl) ?_
                  refine a_iconst K (dq 42 rfl) (v := 1) rfl ?_
                  refine a_iload_n K (dq 43 rfl) rfl rfl ?_
                  refine a_iadd K (dq 44 rfl) ?_
                  refine a_iconst K (dq 45 rfl) (v := 4) rfl ?_
                  refine a_isub K (dq 46 rfl) ?_
                  obtain ⟨c26, h⟩ := ib_some h
                  refine a_iald K (T := 21) (i := 0) v_21 rfl rfl c26 (dq 47 rfl) ?_
                  obtain rfl := Option.some.inj h
                  exact a_iret K rfl rfl (dq 48 rfl) (Nat.le_of_ble_eq_true rfl) (Nat.le_of_ble_eq_true rfl) rfl rfl
    · have h := ite_f c16 h
      refine a_iconst K (dq 11 rfl) (v := 0) rfl ?_
      obtain rfl := Option.some.inj h
      exact a_iret K rfl rfl (dq 12 rfl) (Nat.le_of_ble_eq_true rfl) (Nat.le_of_ble_eq_true rfl) rfl rfl
def t_X7_farm : List (Nat × Instr × Nat) := [(0, .iload_n 1, 1), (1, .iconst 0, 1), (2, .sipush 200, 3), (5, .invokestatic 65, 3), (8, .ifCond .ne 10, 3), (11, .aload_n 0, 1), (12, .iconst 1, 1), (13, .iconst 0, 1), (14, .invokevirtual 96, 3), (17, .ireturn, 1), (18, .aload_n 0, 1), (19, .getfield 7, 3), (22, .iconst 0, 1), (23, .iaload, 1), (24, .bipush 12, 2), (26, .if_icmp .ne 10, 3), (29, .aload_n 0, 1), (30, .iconst 2, 1), (31, .iconst 0, 1), (32, .invokevirtual 96, 3), (35, .ireturn, 1), (36, .aload_n 0, 1), (37, .aload_n 0, 1), (38, .getfield 7, 3), (41, .invokevirtual 99, 3), (44, .aload_n 0, 1), (45, .getfield 7, 3), (48, .iconst 0, 1), (49, .iaload, 1), (50, .istore_n 2, 1), (51, .aload_n 0, 1), (52, .getfield 7, 3), (55, .iconst 0, 1), (56, .dup2, 1), (57, .iaload, 1), (58, .iconst 1, 1), (59, .iadd, 1), (60, .iastore, 1), (61, .aload_n 0, 1), (62, .getfield 7, 3), (65, .bipush 8, 2), (67, .iload_n 2, 1), (68, .iadd, 1), (69, .iload_n 1, 1), (70, .iastore, 1), (71, .aload_n 0, 1), (72, .getfield 7, 3), (75, .bipush 20, 2), (77, .iload_n 2, 1), (78, .iadd, 1), (79, .iconst (-1), 1), (80, .iastore, 1), (81, .aload_n 0, 1), (82, .getfield 7, 3), (85, .bipush 32, 2), (87, .iload_n 2, 1), (88, .iadd, 1), (89, .iconst (-1), 1), (90, .iastore, 1), (91, .iload_n 2, 1), (92, .ireturn, 1)]
theorem dt_X7_farm : tblOK cX7_farm t_X7_farm = true := by decide +kernel
def p_X7_farm (a1 : Int32) (σ : Sg) : Option (Int32 × Sg) :=
  (p_X7_in a1 0 200 σ).bind fun r1 => if r1 = 0 then ((p_X7_refuses 1 0 σ).bind fun r9 => some (r9.1, r9.2)) else (if (gA σ 21 0 0) = 12 then ((p_X7_refuses 2 0 σ).bind fun r8 => some (r8.1, r8.2)) else ((p_X7_keeps 21 σ).bind fun r4 => if ib (8 + (gA r4 21 0 0)) 44 then (if ib (20 + (gA r4 21 0 0)) 44 then (if ib (32 + (gA r4 21 0 0)) 44 then (some ((gA r4 21 0 0), sA (sA (sA (sA r4 21 0 0 ((gA r4 21 0 0) + 1)) 21 0 (8 + (gA r4 21 0 0)).toNatClampNeg a1) 21 0 (20 + (gA r4 21 0 0)).toNatClampNeg (-1)) 21 0 (32 + (gA r4 21 0 0)).toNatClampNeg (-1))) else none) else none) else none))
set_option maxRecDepth 20000 in
set_option maxHeartbeats 1000000 in
theorem s_X7_farm {l : Launch} {D : va_G} {ty : Nat → ClassId} {ρ : Nat → Nat → Nat} {N0 : Nat} (S : St l ty ρ N0) (a1 : Int32)  (σ : Sg) (r : (Int32 × Sg)) (h : p_X7_farm a1 σ = some r) : AMet l D ty ρ N0 yX7_farm (Cond.code yX7_farm cX7_farm 3 (some .int) :: GW) (rmk 3 0 0) [.ref (ρ 20 0), .int a1] σ (oI r.1) r.2 := by
  refine am_enter S (by decide) rfl rfl (Nat.le_of_ble_eq_true rfl) ?_
  intro p e s m args below meth c K hX
  have dq := @tat _ _ dt_X7_farm
  unfold p_X7_farm at h
  show WA p l e _ s m args below meth c D ty ρ N0 3 _ 0 [some (.ref (ρ 20 0)), some (.int a1), none] [] σ 0 0
  refine a_iload_n K (dq 0 rfl) rfl rfl ?_
  refine a_iconst K (dq 1 rfl) (v := 0) rfl ?_
  refine a_sipush K (dq 2 rfl) (v := 200) rfl ?_
  obtain ⟨r1, h1, h⟩ := bnd h
  refine a_callSi K (s_X7_in S a1 0 200  σ r1 h1) cw_X7_in ml_X7_65 (by decide) rfl (rest := []) rfl (Nat.le_of_ble_eq_true rfl) (dq 3 rfl) (by decide) ?_
  refine a_if_ne K (tgt := 18) (dq 4 rfl) rfl (fun c2 => ?_) (fun c2 => ?_)
  · have h := ite_f c2 h
    refine a_aload_n K (dq 10 rfl) rfl rfl ?_
    refine a_get K (T := 20) (i := 0) (k := 0) (v := .ref (ρ 21 0)) v_20 rfl rfl in_X7 (Nat.le_of_ble_eq_true rfl) fl_X7_7 rfl (dq 11 rfl) ?_
    refine a_iconst K (dq 12 rfl) (v := 0) rfl ?_
    refine a_ialdK K (T := 21) (i := 0) (nj := 0) v_21 rfl rfl (ib_in rfl) rfl (dq 13 rfl) ?_
    refine a_bipush K (dq 14 rfl) (v := 12) rfl ?_
    refine a_icmp_ne K (tgt := 36) (dq 15 rfl) rfl (fun c3 => ?_) (fun c3 => ?_)
    · have h := ite_f c3 h
      refine a_aload_n K (dq 21 rfl) rfl rfl ?_
      refine a_aload_n K (dq 22 rfl) rfl rfl ?_
      refine a_get K (T := 20) (i := 0) (k := 0) (v := .ref (ρ 21 0)) v_20 rfl rfl in_X7 (Nat.le_of_ble_eq_true rfl) fl_X7_7 rfl (dq 23 rfl) ?_
      obtain ⟨r4, h4, h⟩ := bnd h
      refine a_callVv K (s_X7_keeps S 21 v_21 rfl rfl σ r4 h4) v_20 rfl rfl cw_X7_keeps ml_X7_99 (by decide) rfl (rest := []) rfl (Nat.le_of_ble_eq_true rfl) (dq 24 rfl) (by decide) ?_
      refine a_aload_n K (dq 25 rfl) rfl rfl ?_
      refine a_get K (T := 20) (i := 0) (k := 0) (v := .ref (ρ 21 0)) v_20 rfl rfl in_X7 (Nat.le_of_ble_eq_true rfl) fl_X7_7 rfl (dq 26 rfl) ?_
      refine a_iconst K (dq 27 rfl) (v := 0) rfl ?_
      refine a_ialdK K (T := 21) (i := 0) (nj := 0) v_21 rfl rfl (ib_in rfl) rfl (dq 28 rfl) ?_
      refine a_istore_n K (dq 29 rfl) rfl (Nat.le_of_ble_eq_true rfl) (ls' := [some (.ref (ρ 20 0)), some (.int a1), some (.int (gA r4 21 0 0))]) rfl ?_
      refine a_aload_n K (dq 30 rfl) rfl rfl ?_
      refine a_get K (T := 20) (i := 0) (k := 0) (v := .ref (ρ 21 0)) v_20 rfl rfl in_X7 (Nat.le_of_ble_eq_true rfl) fl_X7_7 rfl (dq 31 rfl) ?_
      refine a_iconst K (dq 32 rfl) (v := 0) rfl ?_
      refine a_dup2 K (dq 33 rfl) rfl rfl ?_
      refine a_ialdK K (T := 21) (i := 0) (nj := 0) v_21 rfl rfl (ib_in rfl) rfl (dq 34 rfl) ?_
      refine a_iconst K (dq 35 rfl) (v := 1) rfl ?_
      refine a_iadd K (dq 36 rfl) ?_
      refine a_iastK K (T := 21) (i := 0) (nj := 0) v_21 rfl rfl (ib_in rfl) rfl (dq 37 rfl) ?_
      refine a_aload_n K (dq 38 rfl) rfl rfl ?_
      refine a_get K (T := 20) (i := 0) (k := 0) (v := .ref (ρ 21 0)) v_20 rfl rfl in_X7 (Nat.le_of_ble_eq_true rfl) fl_X7_7 rfl (dq 39 rfl) ?_
      refine a_bipush K (dq 40 rfl) (v := 8) rfl ?_
      refine a_iload_n K (dq 41 rfl) rfl rfl ?_
      refine a_iadd K (dq 42 rfl) ?_
      refine a_iload_n K (dq 43 rfl) rfl rfl ?_
      obtain ⟨c5, h⟩ := ib_some h
      refine a_iast K (T := 21) (i := 0) v_21 rfl rfl c5 (dq 44 rfl) ?_
      refine a_aload_n K (dq 45 rfl) rfl rfl ?_
      refine a_get K (T := 20) (i := 0) (k := 0) (v := .ref (ρ 21 0)) v_20 rfl rfl in_X7 (Nat.le_of_ble_eq_true rfl) fl_X7_7 rfl (dq 46 rfl) ?_
      refine a_bipush K (dq 47 rfl) (v := 20) rfl ?_
      refine a_iload_n K (dq 48 rfl) rfl rfl ?_
      refine a_iadd K (dq 49 rfl) ?_
      refine a_iconst K (dq 50 rfl) (v := (-1)) rfl ?_
      obtain ⟨c6, h⟩ := ib_some h
      refine a_iast K (T := 21) (i := 0) v_21 rfl rfl c6 (dq 51 rfl) ?_
      refine a_aload_n K (dq 52 rfl) rfl rfl ?_
      refine a_get K (T := 20) (i := 0) (k := 0) (v := .ref (ρ 21 0)) v_20 rfl rfl in_X7 (Nat.le_of_ble_eq_true rfl) fl_X7_7 rfl (dq 53 rfl) ?_
      refine a_bipush K (dq 54 rfl) (v := 32) rfl ?_
      refine a_iload_n K (dq 55 rfl) rfl rfl ?_
      refine a_iadd K (dq 56 rfl) ?_
      refine a_iconst K (dq 57 rfl) (v := (-1)) rfl ?_
      obtain ⟨c7, h⟩ := ib_some h
      refine a_iast K (T := 21) (i := 0) v_21 rfl rfl c7 (dq 58 rfl) ?_
      refine a_iload_n K (dq 59 rfl) rfl rfl ?_
      obtain rfl := Option.some.inj h
      exact a_iret K rfl rfl (dq 60 rfl) (Nat.le_of_ble_eq_true rfl) (Nat.le_of_ble_eq_true rfl) rfl rfl
    · have h := ite_t c3 h
      refine a_aload_n K (dq 16 rfl) rfl rfl ?_
      refine a_iconst K (dq 17 rfl) (v := 2) rfl ?_
      refine a_iconst K (dq 18 rfl) (v := 0) rfl ?_
      obtain ⟨r8, h8, h⟩ := bnd h
      refine a_callVi K (s_X7_refuses S 2 0  σ r8 h8) v_20 rfl rfl cw_X7_refuses ml_X7_96 (by decide) rfl (rest := []) rfl (Nat.le_of_ble_eq_true rfl) (dq 19 rfl) (by decide) ?_
      obtain rfl := Option.some.inj h
      exact a_iret K rfl rfl (dq 20 rfl) (Nat.le_of_ble_eq_true rfl) (Nat.le_of_ble_eq_true rfl) rfl rfl
  · have h := ite_t c2 h
    refine a_aload_n K (dq 5 rfl) rfl rfl ?_
    refine a_iconst K (dq 6 rfl) (v := 1) rfl ?_
    refine a_iconst K (dq 7 rfl) (v := 0) rfl ?_
    obtain ⟨r9, h9, h⟩ := bnd h
    refine a_callVi K (s_X7_refuses S 1 0  σ r9 h9) v_20 rfl rfl cw_X7_refuses ml_X7_96 (by decide) rfl (rest := []) rfl (Nat.le_of_ble_eq_true rfl) (dq 8 rfl) (by decide) ?_
    obtain rfl := Option.some.inj h
    exact a_iret K rfl rfl (dq 9 rfl) (Nat.le_of_ble_eq_true rfl) (Nat.le_of_ble_eq_true rfl) rfl rfl
def t_X7_areJoined : List (Nat × Instr × Nat) := [(0, .aload_n 0, 1), (1, .iload_n 1, 1), (2, .invokevirtual 73, 3), (5, .aload_n 0, 1), (6, .iload_n 2, 1), (7, .invokevirtual 73, 3), (10, .if_icmp .ne 7, 3), (13, .iconst 1, 1), (14, .goto 4, 3), (17, .iconst 0, 1), (18, .ireturn, 1)]
theorem dt_X7_areJoined : tblOK cX7_areJoined t_X7_areJoined = true := by decide +kernel
def p_X7_areJoined (a1 : Int32) (a2 : Int32) (σ : Sg) : Option Int32 :=
  (p_X7_rootOf a1 σ).bind fun r1 => (p_X7_rootOf a2 σ).bind fun r2 => if r1 = r2 then (some 1) else (some 0)
set_option maxRecDepth 20000 in
set_option maxHeartbeats 1000000 in
theorem s_X7_areJoined {l : Launch} {D : va_G} {ty : Nat → ClassId} {ρ : Nat → Nat → Nat} {N0 : Nat} (S : St l ty ρ N0) (a1 : Int32) (a2 : Int32)  (σ : Sg) (r : Int32) (h : p_X7_areJoined a1 a2 σ = some r) : AMet l D ty ρ N0 yX7_areJoined (Cond.code yX7_areJoined cX7_areJoined 3 (some .boolean) :: GW) (rmk 3 0 0) [.ref (ρ 20 0), .int a1, .int a2] σ (oI r) σ := by
  refine am_enter S (by decide) rfl rfl (Nat.le_of_ble_eq_true rfl) ?_
  intro p e s m args below meth c K hX
  have dq := @tat _ _ dt_X7_areJoined
  unfold p_X7_areJoined at h
  show WA p l e _ s m args below meth c D ty ρ N0 3 _ 0 [some (.ref (ρ 20 0)), some (.int a1), some (.int a2)] [] σ 0 0
  refine a_aload_n K (dq 0 rfl) rfl rfl ?_
  refine a_iload_n K (dq 1 rfl) rfl rfl ?_
  obtain ⟨r1, h1, h⟩ := bnd h
  refine a_callVi K (s_X7_rootOf S a1  σ r1 h1) v_20 rfl rfl cw_X7_rootOf ml_X7_73 (by decide) rfl (rest := []) rfl (Nat.le_of_ble_eq_true rfl) (dq 2 rfl) (by decide) ?_
  refine a_aload_n K (dq 3 rfl) rfl rfl ?_
  refine a_iload_n K (dq 4 rfl) rfl rfl ?_
  obtain ⟨r2, h2, h⟩ := bnd h
  refine a_callVi K (s_X7_rootOf S a2  σ r2 h2) v_20 rfl rfl cw_X7_rootOf ml_X7_73 (by decide) rfl (rest := [.int r1]) rfl (Nat.le_of_ble_eq_true rfl) (dq 5 rfl) (by decide) ?_
  refine a_icmp_ne K (tgt := 17) (dq 6 rfl) rfl (fun c3 => ?_) (fun c3 => ?_)
  · have h := ite_f c3 h
    refine a_iconst K (dq 9 rfl) (v := 0) rfl ?_
    obtain rfl := Option.some.inj h
    exact a_iret K rfl rfl (dq 10 rfl) (Nat.le_of_ble_eq_true rfl) (Nat.le_of_ble_eq_true rfl) rfl rfl
  · have h := ite_t c3 h
    refine a_iconst K (dq 7 rfl) (v := 1) rfl ?_
    refine a_goto K (tgt := 18) (dq 8 rfl) rfl ?_
    obtain rfl := Option.some.inj h
    exact a_iret K rfl rfl (dq 10 rfl) (Nat.le_of_ble_eq_true rfl) (Nat.le_of_ble_eq_true rfl) rfl rfl
def t_X7_goes : List (Nat × Instr × Nat) := [(0, .aload_n 0, 1), (1, .iload_n 1, 1), (2, .iload_n 2, 1), (3, .invokevirtual 83, 3), (6, .istore_n 3, 1), (7, .aload_n 0, 1), (8, .iconst 0, 1), (9, .putfield 87, 3), (12, .iload_n 1, 1), (13, .istore 4, 2), (15, .iload 4, 2), (17, .iload_n 3, 1), (18, .if_icmp .eq 35, 3), (21, .aload_n 0, 1), (22, .getfield 33, 3), (25, .aload_n 0, 1), (26, .getfield 87, 3), (29, .iload 4, 2), (31, .iastore, 1), (32, .aload_n 0, 1), (33, .dup, 1), (34, .getfield 87, 3), (37, .iconst 1, 1), (38, .iadd, 1), (39, .putfield 87, 3), (42, .aload_n 0, 1), (43, .iload 4, 2), (45, .invokevirtual 69, 3), (48, .istore 4, 2), (50, .goto (-35), 3), (53, .aload_n 0, 1), (54, .dup, 1), (55, .getfield 87, 3), (58, .aload_n 0, 1), (59, .iload_n 2, 1), (60, .invokevirtual 90, 3), (63, .aload_n 0, 1), (64, .iload_n 3, 1), (65, .invokevirtual 90, 3), (68, .isub, 1), (69, .iconst 1, 1), (70, .iadd, 1), (71, .iadd, 1), (72, .putfield 87, 3), (75, .aload_n 0, 1), (76, .getfield 87, 3), (79, .iconst 1, 1), (80, .isub, 1), (81, .istore 4, 2), (83, .iload_n 2, 1), (84, .istore 5, 2), (86, .iload 5, 2), (88, .iload_n 3, 1), (89, .if_icmp .eq 26, 3), (92, .aload_n 0, 1), (93, .getfield 33, 3), (96, .iload 4, 2), (98, .iload 5, 2), (100, .iastore, 1), (101, .iinc 4 (-1), 3), (104, .aload_n 0, 1), (105, .iload 5, 2), (107, .invokevirtual 69, 3), (110, .istore 5, 2), (112, .goto (-26), 3), (115, .aload_n 0, 1), (116, .getfield 33, 3), (119, .iload 4, 2), (121, .iload_n 3, 1), (122, .iastore, 1), (123, .return_, 1)]
theorem dt_X7_goes : tblOK cX7_goes t_X7_goes = true := by decide +kernel
def p_X7_goes_L86  : Nat → Int32 → Int32 → Int32 → Sg → Option Sg
  | 0, _, _, _, _ => none
  | n + 1, v3, v4, v5, σ => if v5 = v3 then (if ib v4 12 then (some (sA σ 27 0 v4.toNatClampNeg v3)) else none) else (if ib v4 12 then ((p_X7_parent v5 (sA σ 27 0 v4.toNatClampNeg v5)).bind fun r8 => p_X7_goes_L86 n v3 (v4 + (-1)) r8 (sA σ 27 0 v4.toNatClampNeg v5)) else none)
def p_X7_goes_L15  : Nat → Int32 → Int32 → Int32 → Sg → Option Sg
  | 0, _, _, _, _ => none
  | n + 1, v2, v3, v4, σ => if v4 = v3 then ((p_X7_depth v2 σ).bind fun r3 => (p_X7_depth v3 σ).bind fun r4 => p_X7_goes_L86 400 v3 ((gI (sI σ 20 0 18 ((gI σ 20 0 18) + ((r3 - r4) + 1))) 20 0 18) - 1) v2 (sI σ 20 0 18 ((gI σ 20 0 18) + ((r3 - r4) + 1)))) else (if ib (gI σ 20 0 18) 12 then ((p_X7_parent v4 (sI (sA σ 27 0 (gI σ 20 0 18).toNatClampNeg v4) 20 0 18 ((gI (sA σ 27 0 (gI σ 20 0 18).toNatClampNeg v4) 20 0 18) + 1))).bind fun r10 => p_X7_goes_L15 n v2 v3 r10 (sI (sA σ 27 0 (gI σ 20 0 18).toNatClampNeg v4) 20 0 18 ((gI (sA σ 27 0 (gI σ 20 0 18).toNatClampNeg v4) 20 0 18) + 1))) else none)
def p_X7_goes (a1 : Int32) (a2 : Int32) (σ : Sg) : Option Sg :=
  (p_X7_meetOf a1 a2 σ).bind fun r1 => p_X7_goes_L15 400 a2 r1 a1 (sI σ 20 0 18 0)
set_option maxRecDepth 20000 in
set_option maxHeartbeats 1000000 in
theorem s_X7_goes_L86 {l : Launch} {D : va_G} {ty : Nat → ClassId} {ρ : Nat → Nat → Nat} {N0 : Nat} (S : St l ty ρ N0)   : ∀ (n : Nat) (v3 : Int32) (v4 : Int32) (v5 : Int32) (σ : Sg) (r : Sg) (h : p_X7_goes_L86  n v3 v4 v5 σ = some r) {p : Program} {e : Env} {s : State} {m : MethodId} {args : Array Value} {below : List Frame} {meth : Method} {c : Code} (K : Cx p l s m args meth c cX7_goes 6 RX7 none D ty ρ N0) (hX : ∀ x ∈ c.exceptionTable.toList, False), WA p l e (rmk 4 0 0) s m args below meth c D ty ρ N0 6 (vx_MQ below (oQ D ty ρ N0 (.inl none) r) (oX D ty ρ N0 (.inl none) r) args s 0 0 (fun q => N0 ≤ q)) 86 [some (.ref (ρ 20 0)), none, none, some (.int v3), some (.int v4), some (.int v5)] [] σ 0 0 := by
  intro n
  induction n with
  | zero =>
    intro v3 v4 v5 σ r h
    simp only [p_X7_goes_L86] at h
    cases h
  | succ n ih =>
    intro v3 v4 v5 σ r h p e s m args below meth c K hX
    have dq := @tat _ _ dt_X7_goes
    rw [p_X7_goes_L86] at h
    refine a_iload K (dq 51 rfl) rfl ?_
    refine a_iload_n K (dq 52 rfl) rfl rfl ?_
    refine a_icmp_eq K (tgt := 115) (dq 53 rfl) rfl (fun c5 => ?_) (fun c5 => ?_)
    · have h := ite_t c5 h
      refine a_aload_n K (dq 65 rfl) rfl rfl ?_
      refine a_get K (T := 20) (i := 0) (k := 17) (v := .ref (ρ 27 0)) v_20 rfl rfl in_X7 (Nat.le_of_ble_eq_true rfl) fl_X7_33 rfl (dq 66 rfl) ?_
      refine a_iload K (dq 67 rfl) rfl ?_
      refine a_iload_n K (dq 68 rfl) rfl rfl ?_
      obtain ⟨c6, h⟩ := ib_some h
      refine a_iast K (T := 27) (i := 0) v_27 rfl rfl c6 (dq 69 rfl) ?_
      obtain rfl := Option.some.inj h
      exact a_vret K rfl (dq 70 rfl) (Nat.le_of_ble_eq_true rfl) (Nat.le_of_ble_eq_true rfl) rfl rfl
    · have h := ite_f c5 h
      refine a_aload_n K (dq 54 rfl) rfl rfl ?_
      refine a_get K (T := 20) (i := 0) (k := 17) (v := .ref (ρ 27 0)) v_20 rfl rfl in_X7 (Nat.le_of_ble_eq_true rfl) fl_X7_33 rfl (dq 55 rfl) ?_
      refine a_iload K (dq 56 rfl) rfl ?_
      refine a_iload K (dq 57 rfl) rfl ?_
      obtain ⟨c7, h⟩ := ib_some h
      refine a_iast K (T := 27) (i := 0) v_27 rfl rfl c7 (dq 58 rfl) ?_
      refine a_iinc K (dq 59 rfl) rfl (v := (v4 + (-1))) rfl (Nat.le_of_ble_eq_true rfl) (ls' := [some (.ref (ρ 20 0)), none, none, some (.int v3), some (.int (v4 + (-1))), some (.int v5)]) rfl ?_
      refine a_aload_n K (dq 60 rfl) rfl rfl ?_
      refine a_iload K (dq 61 rfl) rfl ?_
      obtain ⟨r8, h8, h⟩ := bnd h
      refine a_callVi K (s_X7_parent S v5  (sA σ 27 0 v4.toNatClampNeg v5) r8 h8) v_20 rfl rfl cw_X7_parent ml_X7_69 (by decide) rfl (rest := []) rfl (Nat.le_of_ble_eq_true rfl) (dq 62 rfl) (by decide) ?_
      refine a_istore K (dq 63 rfl) (Nat.le_of_ble_eq_true rfl) (ls' := [some (.ref (ρ 20 0)), none, none, some (.int v3), some (.int (v4 + (-1))), some (.int r8)]) rfl ?_
      refine a_goto K (tgt := 86) (dq 64 rfl) rfl ?_
      exact ih v3 (v4 + (-1)) r8 (sA σ 27 0 v4.toNatClampNeg v5) r h K hX
set_option maxRecDepth 20000 in
set_option maxHeartbeats 1000000 in
theorem s_X7_goes_L15 {l : Launch} {D : va_G} {ty : Nat → ClassId} {ρ : Nat → Nat → Nat} {N0 : Nat} (S : St l ty ρ N0)   : ∀ (n : Nat) (v2 : Int32) (v3 : Int32) (v4 : Int32) (σ : Sg) (r : Sg) (h : p_X7_goes_L15  n v2 v3 v4 σ = some r) {p : Program} {e : Env} {s : State} {m : MethodId} {args : Array Value} {below : List Frame} {meth : Method} {c : Code} (K : Cx p l s m args meth c cX7_goes 6 RX7 none D ty ρ N0) (hX : ∀ x ∈ c.exceptionTable.toList, False), WA p l e (rmk 4 0 0) s m args below meth c D ty ρ N0 6 (vx_MQ below (oQ D ty ρ N0 (.inl none) r) (oX D ty ρ N0 (.inl none) r) args s 0 0 (fun q => N0 ≤ q)) 15 [some (.ref (ρ 20 0)), none, some (.int v2), some (.int v3), some (.int v4), none] [] σ 0 0 := by
  intro n
  induction n with
  | zero =>
    intro v2 v3 v4 σ r h
    simp only [p_X7_goes_L15] at h
    cases h
  | succ n ih =>
    intro v2 v3 v4 σ r h p e s m args below meth c K hX
    have dq := @tat _ _ dt_X7_goes
    rw [p_X7_goes_L15] at h
    refine a_iload K (dq 10 rfl) rfl ?_
    refine a_iload_n K (dq 11 rfl) rfl rfl ?_
    refine a_icmp_eq K (tgt := 53) (dq 12 rfl) rfl (fun c2 => ?_) (fun c2 => ?_)
    · have h := ite_t c2 h
      refine a_aload_n K (dq 30 rfl) rfl rfl ?_
      refine a_dup K (dq 31 rfl) rfl ?_
      refine a_get K (T := 20) (i := 0) (k := 18) (v := .int (gI σ 20 0 18)) v_20 rfl rfl in_X7 (Nat.le_of_ble_eq_true rfl) fl_X7_87 rfl (dq 32 rfl) ?_
      refine a_aload_n K (dq 33 rfl) rfl rfl ?_
      refine a_iload_n K (dq 34 rfl) rfl rfl ?_
      obtain ⟨r3, h3, h⟩ := bnd h
      refine a_callVi K (s_X7_depth S v2  σ r3 h3) v_20 rfl rfl cw_X7_depth ml_X7_90 (by decide) rfl (rest := [.int (gI σ 20 0 18), .ref (ρ 20 0)]) rfl (Nat.le_of_ble_eq_true rfl) (dq 35 rfl) (by decide) ?_
      refine a_aload_n K (dq 36 rfl) rfl rfl ?_
      refine a_iload_n K (dq 37 rfl) rfl rfl ?_
      obtain ⟨r4, h4, h⟩ := bnd h
      refine a_callVi K (s_X7_depth S v3  σ r4 h4) v_20 rfl rfl cw_X7_depth ml_X7_90 (by decide) rfl (rest := [.int r3, .int (gI σ 20 0 18), .ref (ρ 20 0)]) rfl (Nat.le_of_ble_eq_true rfl) (dq 38 rfl) (by decide) ?_
      refine a_isub K (dq 39 rfl) ?_
      refine a_iconst K (dq 40 rfl) (v := 1) rfl ?_
      refine a_iadd K (dq 41 rfl) ?_
      refine a_iadd K (dq 42 rfl) ?_
      refine a_put K (T := 20) (i := 0) (k := 18) v_20 rfl rfl in_X7 tyX7 tyX7_ok nmX7 (Nat.le_of_ble_eq_true rfl) fl_X7_87 rfl rfl (tyX7_ok 18 (by decide)) rfl rfl (dq 43 rfl) ?_
      refine a_aload_n K (dq 44 rfl) rfl rfl ?_
      refine a_get K (T := 20) (i := 0) (k := 18) (v := .int (gI (sI σ 20 0 18 ((gI σ 20 0 18) + ((r3 - r4) + 1))) 20 0 18)) v_20 rfl rfl in_X7 (Nat.le_of_ble_eq_true rfl) fl_X7_87 rfl (dq 45 rfl) ?_
      refine a_iconst K (dq 46 rfl) (v := 1) rfl ?_
      refine a_isub K (dq 47 rfl) ?_
      refine a_istore K (dq 48 rfl) (Nat.le_of_ble_eq_true rfl) (ls' := [some (.ref (ρ 20 0)), none, some (.int v2), some (.int v3), some (.int ((gI (sI σ 20 0 18 ((gI σ 20 0 18) + ((r3 - r4) + 1))) 20 0 18) - 1)), none]) rfl ?_
      refine a_iload_n K (dq 49 rfl) rfl rfl ?_
      refine a_istore K (dq 50 rfl) (Nat.le_of_ble_eq_true rfl) (ls' := [some (.ref (ρ 20 0)), none, some (.int v2), some (.int v3), some (.int ((gI (sI σ 20 0 18 ((gI σ 20 0 18) + ((r3 - r4) + 1))) 20 0 18) - 1)), some (.int v2)]) rfl ?_
      refine a_le2 (ls' := [some (.ref (ρ 20 0)), none, none, some (.int v3), some (.int ((gI (sI σ 20 0 18 ((gI σ 20 0 18) + ((r3 - r4) + 1))) 20 0 18) - 1)), some (.int v2)]) ⟨rfl, rfl, rfl, rfl, trivial⟩ ?_
      exact s_X7_goes_L86 S    400 v3 ((gI (sI σ 20 0 18 ((gI σ 20 0 18) + ((r3 - r4) + 1))) 20 0 18) - 1) v2 (sI σ 20 0 18 ((gI σ 20 0 18) + ((r3 - r4) + 1))) r h K hX
    · have h := ite_f c2 h
      refine a_aload_n K (dq 13 rfl) rfl rfl ?_
      refine a_get K (T := 20) (i := 0) (k := 17) (v := .ref (ρ 27 0)) v_20 rfl rfl in_X7 (Nat.le_of_ble_eq_true rfl) fl_X7_33 rfl (dq 14 rfl) ?_
      refine a_aload_n K (dq 15 rfl) rfl rfl ?_
      refine a_get K (T := 20) (i := 0) (k := 18) (v := .int (gI σ 20 0 18)) v_20 rfl rfl in_X7 (Nat.le_of_ble_eq_true rfl) fl_X7_87 rfl (dq 16 rfl) ?_
      refine a_iload K (dq 17 rfl) rfl ?_
      obtain ⟨c9, h⟩ := ib_some h
      refine a_iast K (T := 27) (i := 0) v_27 rfl rfl c9 (dq 18 rfl) ?_
      refine a_aload_n K (dq 19 rfl) rfl rfl ?_
      refine a_dup K (dq 20 rfl) rfl ?_
      refine a_get K (T := 20) (i := 0) (k := 18) (v := .int (gI (sA σ 27 0 (gI σ 20 0 18).toNatClampNeg v4) 20 0 18)) v_20 rfl rfl in_X7 (Nat.le_of_ble_eq_true rfl) fl_X7_87 rfl (dq 21 rfl) ?_
      refine a_iconst K (dq 22 rfl) (v := 1) rfl ?_
      refine a_iadd K (dq 23 rfl) ?_
      refine a_put K (T := 20) (i := 0) (k := 18) v_20 rfl rfl in_X7 tyX7 tyX7_ok nmX7 (Nat.le_of_ble_eq_true rfl) fl_X7_87 rfl rfl (tyX7_ok 18 (by decide)) rfl rfl (dq 24 rfl) ?_
      refine a_aload_n K (dq 25 rfl) rfl rfl ?_
      refine a_iload K (dq 26 rfl) rfl ?_
      obtain ⟨r10, h10, h⟩ := bnd h
      refine a_callVi K (s_X7_parent S v4  (sI (sA σ 27 0 (gI σ 20 0 18).toNatClampNeg v4) 20 0 18 ((gI (sA σ 27 0 (gI σ 20 0 18).toNatClampNeg v4) 20 0 18) + 1)) r10 h10) v_20 rfl rfl cw_X7_parent ml_X7_69 (by decide) rfl (rest := []) rfl (Nat.le_of_ble_eq_true rfl) (dq 27 rfl) (by decide) ?_
      refine a_istore K (dq 28 rfl) (Nat.le_of_ble_eq_true rfl) (ls' := [some (.ref (ρ 20 0)), none, some (.int v2), some (.int v3), some (.int r10), none]) rfl ?_
      refine a_goto K (tgt := 15) (dq 29 rfl) rfl ?_
      exact ih v2 v3 r10 (sI (sA σ 27 0 (gI σ 20 0 18).toNatClampNeg v4) 20 0 18 ((gI (sA σ 27 0 (gI σ 20 0 18).toNatClampNeg v4) 20 0 18) + 1)) r h K hX
set_option maxRecDepth 20000 in
set_option maxHeartbeats 1000000 in
theorem s_X7_goes {l : Launch} {D : va_G} {ty : Nat → ClassId} {ρ : Nat → Nat → Nat} {N0 : Nat} (S : St l ty ρ N0) (a1 : Int32) (a2 : Int32)  (σ : Sg) (r : Sg) (h : p_X7_goes a1 a2 σ = some r) : AMet l D ty ρ N0 yX7_goes (Cond.code yX7_goes cX7_goes 6 none :: GW) (rmk 4 0 0) [.ref (ρ 20 0), .int a1, .int a2] σ (.inl none) r := by
  refine am_enter S (by decide) rfl rfl (Nat.le_of_ble_eq_true rfl) ?_
  intro p e s m args below meth c K hX
  have dq := @tat _ _ dt_X7_goes
  unfold p_X7_goes at h
  show WA p l e _ s m args below meth c D ty ρ N0 6 _ 0 [some (.ref (ρ 20 0)), some (.int a1), some (.int a2), none, none, none] [] σ 0 0
  refine a_aload_n K (dq 0 rfl) rfl rfl ?_
  refine a_iload_n K (dq 1 rfl) rfl rfl ?_
  refine a_iload_n K (dq 2 rfl) rfl rfl ?_
  obtain ⟨r1, h1, h⟩ := bnd h
  refine a_callVi K (s_X7_meetOf S a1 a2  σ r1 h1) v_20 rfl rfl cw_X7_meetOf ml_X7_83 (by decide) rfl (rest := []) rfl (Nat.le_of_ble_eq_true rfl) (dq 3 rfl) (by decide) ?_
  refine a_istore_n K (dq 4 rfl) rfl (Nat.le_of_ble_eq_true rfl) (ls' := [some (.ref (ρ 20 0)), some (.int a1), some (.int a2), some (.int r1), none, none]) rfl ?_
  refine a_aload_n K (dq 5 rfl) rfl rfl ?_
  refine a_iconst K (dq 6 rfl) (v := 0) rfl ?_
  refine a_put K (T := 20) (i := 0) (k := 18) v_20 rfl rfl in_X7 tyX7 tyX7_ok nmX7 (Nat.le_of_ble_eq_true rfl) fl_X7_87 rfl rfl (tyX7_ok 18 (by decide)) rfl rfl (dq 7 rfl) ?_
  refine a_iload_n K (dq 8 rfl) rfl rfl ?_
  refine a_istore K (dq 9 rfl) (Nat.le_of_ble_eq_true rfl) (ls' := [some (.ref (ρ 20 0)), some (.int a1), some (.int a2), some (.int r1), some (.int a1), none]) rfl ?_
  refine a_le2 (ls' := [some (.ref (ρ 20 0)), none, some (.int a2), some (.int r1), some (.int a1), none]) ⟨rfl, rfl, rfl, rfl, trivial⟩ ?_
  exact s_X7_goes_L15 S    400 a2 r1 a1 (sI σ 20 0 18 0) r h K hX
def t_X7_sizeOf : List (Nat × Instr × Nat) := [(0, .iconst 0, 1), (1, .istore_n 2, 1), (2, .iconst 0, 1), (3, .istore_n 3, 1), (4, .iload_n 3, 1), (5, .aload_n 0, 1), (6, .getfield 7, 3), (9, .iconst 0, 1), (10, .iaload, 1), (11, .if_icmp .ge 26, 3), (14, .iload_n 2, 1), (15, .aload_n 0, 1), (16, .iload_n 3, 1), (17, .iload_n 1, 1), (18, .invokevirtual 76, 3), (21, .ifCond .eq 7, 3), (24, .iconst 1, 1), (25, .goto 4, 3), (28, .iconst 0, 1), (29, .iadd, 1), (30, .istore_n 2, 1), (31, .iinc 3 1, 3), (34, .goto (-30), 3), (37, .iload_n 2, 1), (38, .ireturn, 1)]
theorem dt_X7_sizeOf : tblOK cX7_sizeOf t_X7_sizeOf = true := by decide +kernel
def p_X7_sizeOf_L4  (σ : Sg) : Nat → Int32 → Int32 → Int32 → Option Int32
  | 0, _, _, _ => none
  | n + 1, v1, v2, v3 => if (gA σ 21 0 0) ≤ v3 then (some v2) else ((p_X7_areJoined v3 v1 σ).bind fun r2 => if r2 = 0 then (p_X7_sizeOf_L4 σ n v1 (v2 + 0) (v3 + 1)) else (p_X7_sizeOf_L4 σ n v1 (v2 + 1) (v3 + 1)))
def p_X7_sizeOf (a1 : Int32) (σ : Sg) : Option Int32 :=
  p_X7_sizeOf_L4 σ 400 a1 0 0
set_option maxRecDepth 20000 in
set_option maxHeartbeats 1000000 in
theorem s_X7_sizeOf_L4 {l : Launch} {D : va_G} {ty : Nat → ClassId} {ρ : Nat → Nat → Nat} {N0 : Nat} (S : St l ty ρ N0)   (σ : Sg) : ∀ (n : Nat) (v1 : Int32) (v2 : Int32) (v3 : Int32) (r : Int32) (h : p_X7_sizeOf_L4  σ n v1 v2 v3 = some r) {p : Program} {e : Env} {s : State} {m : MethodId} {args : Array Value} {below : List Frame} {meth : Method} {c : Code} (K : Cx p l s m args meth c cX7_sizeOf 4 RX7 (some .int) D ty ρ N0) (hX : ∀ x ∈ c.exceptionTable.toList, False), WA p l e (rmk 4 0 0) s m args below meth c D ty ρ N0 4 (vx_MQ below (oQ D ty ρ N0 (oI r) σ) (oX D ty ρ N0 (oI r) σ) args s 0 0 (fun q => N0 ≤ q)) 4 [some (.ref (ρ 20 0)), some (.int v1), some (.int v2), some (.int v3)] [] σ 0 0 := by
  intro n
  induction n with
  | zero =>
    intro v1 v2 v3 r h
    simp only [p_X7_sizeOf_L4] at h
    cases h
  | succ n ih =>
    intro v1 v2 v3 r h p e s m args below meth c K hX
    have dq := @tat _ _ dt_X7_sizeOf
    rw [p_X7_sizeOf_L4] at h
    refine a_iload_n K (dq 4 rfl) rfl rfl ?_
    refine a_aload_n K (dq 5 rfl) rfl rfl ?_
    refine a_get K (T := 20) (i := 0) (k := 0) (v := .ref (ρ 21 0)) v_20 rfl rfl in_X7 (Nat.le_of_ble_eq_true rfl) fl_X7_7 rfl (dq 6 rfl) ?_
    refine a_iconst K (dq 7 rfl) (v := 0) rfl ?_
    refine a_ialdK K (T := 21) (i := 0) (nj := 0) v_21 rfl rfl (ib_in rfl) rfl (dq 8 rfl) ?_
    refine a_icmp_ge K (tgt := 37) (dq 9 rfl) rfl (fun c1 => ?_) (fun c1 => ?_)
    · have h := ite_t c1 h
      refine a_iload_n K (dq 23 rfl) rfl rfl ?_
      obtain rfl := Option.some.inj h
      exact a_iret K rfl rfl (dq 24 rfl) (Nat.le_of_ble_eq_true rfl) (Nat.le_of_ble_eq_true rfl) rfl rfl
    · have h := ite_f c1 h
      refine a_iload_n K (dq 10 rfl) rfl rfl ?_
      refine a_aload_n K (dq 11 rfl) rfl rfl ?_
      refine a_iload_n K (dq 12 rfl) rfl rfl ?_
      refine a_iload_n K (dq 13 rfl) rfl rfl ?_
      obtain ⟨r2, h2, h⟩ := bnd h
      refine a_callVi K (s_X7_areJoined S v3 v1  σ r2 h2) v_20 rfl rfl cw_X7_areJoined ml_X7_76 (by decide) rfl (rest := [.int v2]) rfl (Nat.le_of_ble_eq_true rfl) (dq 14 rfl) (by decide) ?_
      refine a_if_eq K (tgt := 28) (dq 15 rfl) rfl (fun c3 => ?_) (fun c3 => ?_)
      · have h := ite_t c3 h
        refine a_iconst K (dq 18 rfl) (v := 0) rfl ?_
        refine a_iadd K (dq 19 rfl) ?_
        refine a_istore_n K (dq 20 rfl) rfl (Nat.le_of_ble_eq_true rfl) (ls' := [some (.ref (ρ 20 0)), some (.int v1), some (.int (v2 + 0)), some (.int v3)]) rfl ?_
        refine a_iinc K (dq 21 rfl) rfl (v := (v3 + 1)) rfl (Nat.le_of_ble_eq_true rfl) (ls' := [some (.ref (ρ 20 0)), some (.int v1), some (.int (v2 + 0)), some (.int (v3 + 1))]) rfl ?_
        refine a_goto K (tgt := 4) (dq 22 rfl) rfl ?_
        exact ih v1 (v2 + 0) (v3 + 1) r h K hX
      · have h := ite_f c3 h
        refine a_iconst K (dq 16 rfl) (v := 1) rfl ?_
        refine a_goto K (tgt := 29) (dq 17 rfl) rfl ?_
        refine a_iadd K (dq 19 rfl) ?_
        refine a_istore_n K (dq 20 rfl) rfl (Nat.le_of_ble_eq_true rfl) (ls' := [some (.ref (ρ 20 0)), some (.int v1), some (.int (v2 + 1)), some (.int v3)]) rfl ?_
        refine a_iinc K (dq 21 rfl) rfl (v := (v3 + 1)) rfl (Nat.le_of_ble_eq_true rfl) (ls' := [some (.ref (ρ 20 0)), some (.int v1), some (.int (v2 + 1)), some (.int (v3 + 1))]) rfl ?_
        refine a_goto K (tgt := 4) (dq 22 rfl) rfl ?_
        exact ih v1 (v2 + 1) (v3 + 1) r h K hX
set_option maxRecDepth 20000 in
set_option maxHeartbeats 1000000 in
theorem s_X7_sizeOf {l : Launch} {D : va_G} {ty : Nat → ClassId} {ρ : Nat → Nat → Nat} {N0 : Nat} (S : St l ty ρ N0) (a1 : Int32)  (σ : Sg) (r : Int32) (h : p_X7_sizeOf a1 σ = some r) : AMet l D ty ρ N0 yX7_sizeOf (Cond.code yX7_sizeOf cX7_sizeOf 4 (some .int) :: GW) (rmk 4 0 0) [.ref (ρ 20 0), .int a1] σ (oI r) σ := by
  refine am_enter S (by decide) rfl rfl (Nat.le_of_ble_eq_true rfl) ?_
  intro p e s m args below meth c K hX
  have dq := @tat _ _ dt_X7_sizeOf
  unfold p_X7_sizeOf at h
  show WA p l e _ s m args below meth c D ty ρ N0 4 _ 0 [some (.ref (ρ 20 0)), some (.int a1), none, none] [] σ 0 0
  refine a_iconst K (dq 0 rfl) (v := 0) rfl ?_
  refine a_istore_n K (dq 1 rfl) rfl (Nat.le_of_ble_eq_true rfl) (ls' := [some (.ref (ρ 20 0)), some (.int a1), some (.int 0), none]) rfl ?_
  refine a_iconst K (dq 2 rfl) (v := 0) rfl ?_
  refine a_istore_n K (dq 3 rfl) rfl (Nat.le_of_ble_eq_true rfl) (ls' := [some (.ref (ρ 20 0)), some (.int a1), some (.int 0), some (.int 0)]) rfl ?_
  exact s_X7_sizeOf_L4 S   σ 400 a1 0 0 r h K hX
def t_X7_giveUp : List (Nat × Instr × Nat) := [(0, .aload_n 0, 1), (1, .iload_n 1, 1), (2, .iload_n 2, 1), (3, .invokevirtual 107, 3), (6, .ifCond .ne 15, 3), (9, .aload_n 0, 1), (10, .iconst 3, 1), (11, .aload_n 0, 1), (12, .iload_n 1, 1), (13, .iload_n 2, 1), (14, .invokevirtual 110, 3), (17, .invokevirtual 96, 3), (20, .ireturn, 1), (21, .aload_n 0, 1), (22, .iload_n 1, 1), (23, .iload_n 2, 1), (24, .invokevirtual 124, 3), (27, .ifCond .ne 11, 3), (30, .aload_n 0, 1), (31, .bipush 6, 2), (33, .iconst 0, 1), (34, .invokevirtual 96, 3), (37, .ireturn, 1), (38, .aload_n 0, 1), (39, .aload_n 0, 1), (40, .getfield 7, 3), (43, .invokevirtual 99, 3), (46, .aload_n 0, 1), (47, .iload_n 1, 1), (48, .iload_n 2, 1), (49, .invokevirtual 127, 3), (52, .istore_n 3, 1), (53, .aload_n 0, 1), (54, .iload_n 3, 1), (55, .invokevirtual 69, 3), (58, .istore 4, 2), (60, .aload_n 0, 1), (61, .iload 4, 2), (63, .invokevirtual 130, 3), (66, .iload_n 3, 1), (67, .if_icmp .ne 14, 3), (70, .aload_n 0, 1), (71, .getfield 7, 3), (74, .bipush 32, 2), (76, .iload 4, 2), (78, .iadd, 1), (79, .iconst (-1), 1), (80, .iastore, 1), (81, .aload_n 0, 1), (82, .getfield 7, 3), (85, .bipush 20, 2), (87, .iload_n 3, 1), (88, .iadd, 1), (89, .iconst (-1), 1), (90, .iastore, 1), (91, .aload_n 0, 1), (92, .iload_n 3, 1), (93, .invokevirtual 121, 3), (96, .ireturn, 1)]
theorem dt_X7_giveUp : tblOK cX7_giveUp t_X7_giveUp = true := by decide +kernel
def p_X7_giveUp (a1 : Int32) (a2 : Int32) (σ : Sg) : Option (Int32 × Sg) :=
  (p_X7_areFarms a1 a2 σ).bind fun r1 => if r1 = 0 then ((p_X7_noFarm a1 a2 σ).bind fun r16 => (p_X7_refuses 3 r16 σ).bind fun r17 => some (r17.1, r17.2)) else ((p_X7_isLaid a1 a2 σ).bind fun r3 => if r3 = 0 then ((p_X7_refuses 6 0 σ).bind fun r15 => some (r15.1, r15.2)) else ((p_X7_keeps 21 σ).bind fun r5 => (p_X7_childOf a1 a2 r5).bind fun r6 => (p_X7_parent r6 r5).bind fun r7 => (p_X7_prefers r7 r5).bind fun r8 => if r8 = r6 then (if ib (32 + r7) 44 then (if ib (20 + r6) 44 then ((p_X7_sizeOf r6 (sA (sA r5 21 0 (32 + r7).toNatClampNeg (-1)) 21 0 (20 + r6).toNatClampNeg (-1))).bind fun r14 => some (r14, sA (sA r5 21 0 (32 + r7).toNatClampNeg (-1)) 21 0 (20 + r6).toNatClampNeg (-1))) else none) else none) else (if ib (20 + r6) 44 then ((p_X7_sizeOf r6 (sA r5 21 0 (20 + r6).toNatClampNeg (-1))).bind fun r11 => some (r11, sA r5 21 0 (20 + r6).toNatClampNeg (-1))) else none)))
set_option maxRecDepth 20000 in
set_option maxHeartbeats 1000000 in
theorem s_X7_giveUp {l : Launch} {D : va_G} {ty : Nat → ClassId} {ρ : Nat → Nat → Nat} {N0 : Nat} (S : St l ty ρ N0) (a1 : Int32) (a2 : Int32)  (σ : Sg) (r : (Int32 × Sg)) (h : p_X7_giveUp a1 a2 σ = some r) : AMet l D ty ρ N0 yX7_giveUp (Cond.code yX7_giveUp cX7_giveUp 5 (some .int) :: GW) (rmk 5 0 0) [.ref (ρ 20 0), .int a1, .int a2] σ (oI r.1) r.2 := by
  refine am_enter S (by decide) rfl rfl (Nat.le_of_ble_eq_true rfl) ?_
  intro p e s m args below meth c K hX
  have dq := @tat _ _ dt_X7_giveUp
  unfold p_X7_giveUp at h
  show WA p l e _ s m args below meth c D ty ρ N0 5 _ 0 [some (.ref (ρ 20 0)), some (.int a1), some (.int a2), none, none] [] σ 0 0
  refine a_aload_n K (dq 0 rfl) rfl rfl ?_
  refine a_iload_n K (dq 1 rfl) rfl rfl ?_
  refine a_iload_n K (dq 2 rfl) rfl rfl ?_
  obtain ⟨r1, h1, h⟩ := bnd h
  refine a_callVi K (s_X7_areFarms S a1 a2  σ r1 h1) v_20 rfl rfl cw_X7_areFarms ml_X7_107 (by decide) rfl (rest := []) rfl (Nat.le_of_ble_eq_true rfl) (dq 3 rfl) (by decide) ?_
  refine a_if_ne K (tgt := 21) (dq 4 rfl) rfl (fun c2 => ?_) (fun c2 => ?_)
  · have h := ite_f c2 h
    refine a_aload_n K (dq 13 rfl) rfl rfl ?_
    refine a_iload_n K (dq 14 rfl) rfl rfl ?_
    refine a_iload_n K (dq 15 rfl) rfl rfl ?_
    obtain ⟨r3, h3, h⟩ := bnd h
    refine a_callVi K (s_X7_isLaid S a1 a2  σ r3 h3) v_20 rfl rfl cw_X7_isLaid ml_X7_124 (by decide) rfl (rest := []) rfl (Nat.le_of_ble_eq_true rfl) (dq 16 rfl) (by decide) ?_
    refine a_if_ne K (tgt := 38) (dq 17 rfl) rfl (fun c4 => ?_) (fun c4 => ?_)
    · have h := ite_f c4 h
      refine a_aload_n K (dq 23 rfl) rfl rfl ?_
      refine a_aload_n K (dq 24 rfl) rfl rfl ?_
      refine a_get K (T := 20) (i := 0) (k := 0) (v := .ref (ρ 21 0)) v_20 rfl rfl in_X7 (Nat.le_of_ble_eq_true rfl) fl_X7_7 rfl (dq 25 rfl) ?_
      obtain ⟨r5, h5, h⟩ := bnd h
      refine a_callVv K (s_X7_keeps S 21 v_21 rfl rfl σ r5 h5) v_20 rfl rfl cw_X7_keeps ml_X7_99 (by decide) rfl (rest := []) rfl (Nat.le_of_ble_eq_true rfl) (dq 26 rfl) (by decide) ?_
      refine a_aload_n K (dq 27 rfl) rfl rfl ?_
      refine a_iload_n K (dq 28 rfl) rfl rfl ?_
      refine a_iload_n K (dq 29 rfl) rfl rfl ?_
      obtain ⟨r6, h6, h⟩ := bnd h
      refine a_callVi K (s_X7_childOf S a1 a2  r5 r6 h6) v_20 rfl rfl cw_X7_childOf ml_X7_127 (by decide) rfl (rest := []) rfl (Nat.le_of_ble_eq_true rfl) (dq 30 rfl) (by decide) ?_
      refine a_istore_n K (dq 31 rfl) rfl (Nat.le_of_ble_eq_true rfl) (ls' := [some (.ref (ρ 20 0)), some (.int a1), some (.int a2), some (.int r6), none]) rfl ?_
      refine a_aload_n K (dq 32 rfl) rfl rfl ?_
      refine a_iload_n K (dq 33 rfl) rfl rfl ?_
      obtain ⟨r7, h7, h⟩ := bnd h
      refine a_callVi K (s_X7_parent S r6  r5 r7 h7) v_20 rfl rfl cw_X7_parent ml_X7_69 (by decide) rfl (rest := []) rfl (Nat.le_of_ble_eq_true rfl) (dq 34 rfl) (by decide) ?_
      refine a_istore K (dq 35 rfl) (Nat.le_of_ble_eq_true rfl) (ls' := [some (.ref (ρ 20 0)), some (.int a1), some (.int a2), some (.int r6), some (.int r7)]) rfl ?_
      refine a_aload_n K (dq 36 rfl) rfl rfl ?_
      refine a_iload K (dq 37 rfl) rfl ?_
      obtain ⟨r8, h8, h⟩ := bnd h
      refine a_callVi K (s_X7_prefers S r7  r5 r8 h8) v_20 rfl rfl cw_X7_prefers ml_X7_130 (by decide) rfl (rest := []) rfl (Nat.le_of_ble_eq_true rfl) (dq 38 rfl) (by decide) ?_
      refine a_iload_n K (dq 39 rfl) rfl rfl ?_
      refine a_icmp_ne K (tgt := 81) (dq 40 rfl) rfl (fun c9 => ?_) (fun c9 => ?_)
      · have h := ite_f c9 h
        refine a_aload_n K (dq 48 rfl) rfl rfl ?_
        refine a_get K (T := 20) (i := 0) (k := 0) (v := .ref (ρ 21 0)) v_20 rfl rfl in_X7 (Nat.le_of_ble_eq_true rfl) fl_X7_7 rfl (dq 49 rfl) ?_
        refine a_bipush K (dq 50 rfl) (v := 20) rfl ?_
        refine a_iload_n K (dq 51 rfl) rfl rfl ?_
        refine a_iadd K (dq 52 rfl) ?_
        refine a_iconst K (dq 53 rfl) (v := (-1)) rfl ?_
        obtain ⟨c10, h⟩ := ib_some h
        refine a_iast K (T := 21) (i := 0) v_21 rfl rfl c10 (dq 54 rfl) ?_
        refine a_aload_n K (dq 55 rfl) rfl rfl ?_
        refine a_iload_n K (dq 56 rfl) rfl rfl ?_
        obtain ⟨r11, h11, h⟩ := bnd h
        refine a_callVi K (s_X7_sizeOf S r6  (sA r5 21 0 (20 + r6).toNatClampNeg (-1)) r11 h11) v_20 rfl rfl cw_X7_sizeOf ml_X7_121 (by decide) rfl (rest := []) rfl (Nat.le_of_ble_eq_true rfl) (dq 57 rfl) (by decide) ?_
        obtain rfl := Option.some.inj h
        exact a_iret K rfl rfl (dq 58 rfl) (Nat.le_of_ble_eq_true rfl) (Nat.le_of_ble_eq_true rfl) rfl rfl
      · have h := ite_t c9 h
        refine a_aload_n K (dq 41 rfl) rfl rfl ?_
        refine a_get K (T := 20) (i := 0) (k := 0) (v := .ref (ρ 21 0)) v_20 rfl rfl in_X7 (Nat.le_of_ble_eq_true rfl) fl_X7_7 rfl (dq 42 rfl) ?_
        refine a_bipush K (dq 43 rfl) (v := 32) rfl ?_
        refine a_iload K (dq 44 rfl) rfl ?_
        refine a_iadd K (dq 45 rfl) ?_
        refine a_iconst K (dq 46 rfl) (v := (-1)) rfl ?_
        obtain ⟨c12, h⟩ := ib_some h
        refine a_iast K (T := 21) (i := 0) v_21 rfl rfl c12 (dq 47 rfl) ?_
        refine a_aload_n K (dq 48 rfl) rfl rfl ?_
        refine a_get K (T := 20) (i := 0) (k := 0) (v := .ref (ρ 21 0)) v_20 rfl rfl in_X7 (Nat.le_of_ble_eq_true rfl) fl_X7_7 rfl (dq 49 rfl) ?_
        refine a_bipush K (dq 50 rfl) (v := 20) rfl ?_
        refine a_iload_n K (dq 51 rfl) rfl rfl ?_
        refine a_iadd K (dq 52 rfl) ?_
        refine a_iconst K (dq 53 rfl) (v := (-1)) rfl ?_
        obtain ⟨c13, h⟩ := ib_some h
        refine a_iast K (T := 21) (i := 0) v_21 rfl rfl c13 (dq 54 rfl) ?_
        refine a_aload_n K (dq 55 rfl) rfl rfl ?_
        refine a_iload_n K (dq 56 rfl) rfl rfl ?_
        obtain ⟨r14, h14, h⟩ := bnd h
        refine a_callVi K (s_X7_sizeOf S r6  (sA (sA r5 21 0 (32 + r7).toNatClampNeg (-1)) 21 0 (20 + r6).toNatClampNeg (-1)) r14 h14) v_20 rfl rfl cw_X7_sizeOf ml_X7_121 (by decide) rfl (rest := []) rfl (Nat.le_of_ble_eq_true rfl) (dq 57 rfl) (by decide) ?_
        obtain rfl := Option.some.inj h
        exact a_iret K rfl rfl (dq 58 rfl) (Nat.le_of_ble_eq_true rfl) (Nat.le_of_ble_eq_true rfl) rfl rfl
    · have h := ite_t c4 h
      refine a_aload_n K (dq 18 rfl) rfl rfl ?_
      refine a_bipush K (dq 19 rfl) (v := 6) rfl ?_
      refine a_iconst K (dq 20 rfl) (v := 0) rfl ?_
      obtain ⟨r15, h15, h⟩ := bnd h
      refine a_callVi K (s_X7_refuses S 6 0  σ r15 h15) v_20 rfl rfl cw_X7_refuses ml_X7_96 (by decide) rfl (rest := []) rfl (Nat.le_of_ble_eq_true rfl) (dq 21 rfl) (by decide) ?_
      obtain rfl := Option.some.inj h
      exact a_iret K rfl rfl (dq 22 rfl) (Nat.le_of_ble_eq_true rfl) (Nat.le_of_ble_eq_true rfl) rfl rfl
  · have h := ite_t c2 h
    refine a_aload_n K (dq 5 rfl) rfl rfl ?_
    refine a_iconst K (dq 6 rfl) (v := 3) rfl ?_
    refine a_aload_n K (dq 7 rfl) rfl rfl ?_
    refine a_iload_n K (dq 8 rfl) rfl rfl ?_
    refine a_iload_n K (dq 9 rfl) rfl rfl ?_
    obtain ⟨r16, h16, h⟩ := bnd h
    refine a_callVi K (s_X7_noFarm S a1 a2  σ r16 h16) v_20 rfl rfl cw_X7_noFarm ml_X7_110 (by decide) rfl (rest := [.int 3, .ref (ρ 20 0)]) rfl (Nat.le_of_ble_eq_true rfl) (dq 10 rfl) (by decide) ?_
    obtain ⟨r17, h17, h⟩ := bnd h
    refine a_callVi K (s_X7_refuses S 3 r16  σ r17 h17) v_20 rfl rfl cw_X7_refuses ml_X7_96 (by decide) rfl (rest := []) rfl (Nat.le_of_ble_eq_true rfl) (dq 11 rfl) (by decide) ?_
    obtain rfl := Option.some.inj h
    exact a_iret K rfl rfl (dq 12 rfl) (Nat.le_of_ble_eq_true rfl) (Nat.le_of_ble_eq_true rfl) rfl rfl
def t_X7_expose : List (Nat × Instr × Nat) := [(0, .aload_n 0, 1), (1, .iload_n 1, 1), (2, .invokevirtual 103, 3), (5, .ifCond .ne 10, 3), (8, .aload_n 0, 1), (9, .iconst 3, 1), (10, .iload_n 1, 1), (11, .invokevirtual 96, 3), (14, .ireturn, 1), (15, .aload_n 0, 1), (16, .aload_n 0, 1), (17, .getfield 7, 3), (20, .invokevirtual 99, 3), (23, .aload_n 0, 1), (24, .iload_n 1, 1), (25, .invokevirtual 137, 3), (28, .ireturn, 1)]
theorem dt_X7_expose : tblOK cX7_expose t_X7_expose = true := by decide +kernel
def p_X7_expose (a1 : Int32) (σ : Sg) : Option (Int32 × Sg) :=
  (p_X7_isFarm a1 σ).bind fun r1 => if r1 = 0 then ((p_X7_refuses 3 a1 σ).bind fun r5 => some (r5.1, r5.2)) else ((p_X7_keeps 21 σ).bind fun r3 => (p_X7_counted a1 r3).bind fun r4 => some (r4.1, r4.2))
set_option maxRecDepth 20000 in
set_option maxHeartbeats 1000000 in
theorem s_X7_expose {l : Launch} {D : va_G} {ty : Nat → ClassId} {ρ : Nat → Nat → Nat} {N0 : Nat} (S : St l ty ρ N0) (a1 : Int32)  (σ : Sg) (r : (Int32 × Sg)) (h : p_X7_expose a1 σ = some r) : AMet l D ty ρ N0 yX7_expose (Cond.code yX7_expose cX7_expose 2 (some .int) :: GW) (rmk 4 0 0) [.ref (ρ 20 0), .int a1] σ (oI r.1) r.2 := by
  refine am_enter S (by decide) rfl rfl (Nat.le_of_ble_eq_true rfl) ?_
  intro p e s m args below meth c K hX
  have dq := @tat _ _ dt_X7_expose
  unfold p_X7_expose at h
  show WA p l e _ s m args below meth c D ty ρ N0 2 _ 0 [some (.ref (ρ 20 0)), some (.int a1)] [] σ 0 0
  refine a_aload_n K (dq 0 rfl) rfl rfl ?_
  refine a_iload_n K (dq 1 rfl) rfl rfl ?_
  obtain ⟨r1, h1, h⟩ := bnd h
  refine a_callVi K (s_X7_isFarm S a1  σ r1 h1) v_20 rfl rfl cw_X7_isFarm ml_X7_103 (by decide) rfl (rest := []) rfl (Nat.le_of_ble_eq_true rfl) (dq 2 rfl) (by decide) ?_
  refine a_if_ne K (tgt := 15) (dq 3 rfl) rfl (fun c2 => ?_) (fun c2 => ?_)
  · have h := ite_f c2 h
    refine a_aload_n K (dq 9 rfl) rfl rfl ?_
    refine a_aload_n K (dq 10 rfl) rfl rfl ?_
    refine a_get K (T := 20) (i := 0) (k := 0) (v := .ref (ρ 21 0)) v_20 rfl rfl in_X7 (Nat.le_of_ble_eq_true rfl) fl_X7_7 rfl (dq 11 rfl) ?_
    obtain ⟨r3, h3, h⟩ := bnd h
    refine a_callVv K (s_X7_keeps S 21 v_21 rfl rfl σ r3 h3) v_20 rfl rfl cw_X7_keeps ml_X7_99 (by decide) rfl (rest := []) rfl (Nat.le_of_ble_eq_true rfl) (dq 12 rfl) (by decide) ?_
    refine a_aload_n K (dq 13 rfl) rfl rfl ?_
    refine a_iload_n K (dq 14 rfl) rfl rfl ?_
    obtain ⟨r4, h4, h⟩ := bnd h
    refine a_callVi K (s_X7_counted S a1  r3 r4 h4) v_20 rfl rfl cw_X7_counted ml_X7_137 (by decide) rfl (rest := []) rfl (Nat.le_of_ble_eq_true rfl) (dq 15 rfl) (by decide) ?_
    obtain rfl := Option.some.inj h
    exact a_iret K rfl rfl (dq 16 rfl) (Nat.le_of_ble_eq_true rfl) (Nat.le_of_ble_eq_true rfl) rfl rfl
  · have h := ite_t c2 h
    refine a_aload_n K (dq 4 rfl) rfl rfl ?_
    refine a_iconst K (dq 5 rfl) (v := 3) rfl ?_
    refine a_iload_n K (dq 6 rfl) rfl rfl ?_
    obtain ⟨r5, h5, h⟩ := bnd h
    refine a_callVi K (s_X7_refuses S 3 a1  σ r5 h5) v_20 rfl rfl cw_X7_refuses ml_X7_96 (by decide) rfl (rest := []) rfl (Nat.le_of_ble_eq_true rfl) (dq 7 rfl) (by decide) ?_
    obtain rfl := Option.some.inj h
    exact a_iret K rfl rfl (dq 8 rfl) (Nat.le_of_ble_eq_true rfl) (Nat.le_of_ble_eq_true rfl) rfl rfl
def t_X7_charge : List (Nat × Instr × Nat) := [(0, .aload_n 0, 1), (1, .iload_n 1, 1), (2, .iload_n 2, 1), (3, .invokevirtual 107, 3), (6, .ifCond .ne 15, 3), (9, .aload_n 0, 1), (10, .iconst 3, 1), (11, .aload_n 0, 1), (12, .iload_n 1, 1), (13, .iload_n 2, 1), (14, .invokevirtual 110, 3), (17, .invokevirtual 96, 3), (20, .ireturn, 1), (21, .iload_n 3, 1), (22, .bipush (-50), 2), (24, .bipush 50, 2), (26, .invokestatic 65, 3), (29, .ifCond .ne 10, 3), (32, .aload_n 0, 1), (33, .iconst 1, 1), (34, .iconst 0, 1), (35, .invokevirtual 96, 3), (38, .ireturn, 1), (39, .aload_n 0, 1), (40, .iload_n 1, 1), (41, .iload_n 2, 1), (42, .invokevirtual 76, 3), (45, .ifCond .ne 15, 3), (48, .aload_n 0, 1), (49, .bipush 7, 2), (51, .aload_n 0, 1), (52, .iload_n 1, 1), (53, .invokevirtual 121, 3), (56, .invokevirtual 96, 3), (59, .ireturn, 1), (60, .aload_n 0, 1), (61, .iload_n 1, 1), (62, .iload_n 2, 1), (63, .invokevirtual 113, 3), (66, .aload_n 0, 1), (67, .iload_n 3, 1), (68, .invokevirtual 140, 3), (71, .istore 4, 2), (73, .iload 4, 2), (75, .ifCond .lt 17, 3), (78, .aload_n 0, 1), (79, .bipush 9, 2), (81, .aload_n 0, 1), (82, .getfield 33, 3), (85, .iload 4, 2), (87, .iaload, 1), (88, .invokevirtual 96, 3), (91, .ireturn, 1), (92, .aload_n 0, 1), (93, .aload_n 0, 1), (94, .getfield 7, 3), (97, .invokevirtual 99, 3), (100, .iconst 0, 1), (101, .istore 5, 2), (103, .iload 5, 2), (105, .aload_n 0, 1), (106, .getfield 87, 3), (109, .if_icmp .ge 28, 3), (112, .aload_n 0, 1), (113, .getfield 7, 3), (116, .bipush 8, 2), (118, .aload_n 0, 1), (119, .getfield 33, 3), (122, .iload 5, 2), (124, .iaload, 1), (125, .iadd, 1), (126, .dup2, 1), (127, .iaload, 1), (128, .iload_n 3, 1), (129, .iadd, 1), (130, .iastore, 1), (131, .iinc 5 1, 3), (134, .goto (-31), 3), (137, .aload_n 0, 1), (138, .iconst 0, 1), (139, .invokevirtual 143, 3), (142, .ireturn, 1)]
theorem dt_X7_charge : tblOK cX7_charge t_X7_charge = true := by decide +kernel
def p_X7_charge_L103  : Nat → Int32 → Int32 → Sg → Option ((Int32 × Sg))
  | 0, _, _, _ => none
  | n + 1, v3, v5, σ => if (gI σ 20 0 18) ≤ v5 then ((p_X7_pathToll 0 σ).bind fun r12 => some (r12, σ)) else (if ib v5 12 then (if ib (8 + (gA σ 27 0 v5.toNatClampNeg)) 44 then (if ib (8 + (gA σ 27 0 v5.toNatClampNeg)) 44 then (p_X7_charge_L103 n v3 (v5 + 1) (sA σ 21 0 (8 + (gA σ 27 0 v5.toNatClampNeg)).toNatClampNeg ((gA σ 21 0 (8 + (gA σ 27 0 v5.toNatClampNeg)).toNatClampNeg) + v3))) else none) else none) else none)
def p_X7_charge (a1 : Int32) (a2 : Int32) (a3 : Int32) (σ : Sg) : Option (Int32 × Sg) :=
  (p_X7_areFarms a1 a2 σ).bind fun r1 => if r1 = 0 then ((p_X7_noFarm a1 a2 σ).bind fun r21 => (p_X7_refuses 3 r21 σ).bind fun r22 => some (r22.1, r22.2)) else ((p_X7_in a3 (-50) 50 σ).bind fun r3 => if r3 = 0 then ((p_X7_refuses 1 0 σ).bind fun r20 => some (r20.1, r20.2)) else ((p_X7_areJoined a1 a2 σ).bind fun r5 => if r5 = 0 then ((p_X7_sizeOf a1 σ).bind fun r18 => (p_X7_refuses 7 r18 σ).bind fun r19 => some (r19.1, r19.2)) else ((p_X7_goes a1 a2 σ).bind fun r7 => (p_X7_tooMuch a3 r7).bind fun r8 => if r8 < 0 then ((p_X7_keeps 21 r7).bind fun r10 => p_X7_charge_L103 400 a3 0 r10) else (if ib r8 12 then ((p_X7_refuses 9 (gA r7 27 0 r8.toNatClampNeg) r7).bind fun r17 => some (r17.1, r17.2)) else none))))
set_option maxRecDepth 20000 in
set_option maxHeartbeats 1000000 in
theorem s_X7_charge_L103 {l : Launch} {D : va_G} {ty : Nat → ClassId} {ρ : Nat → Nat → Nat} {N0 : Nat} (S : St l ty ρ N0)   : ∀ (n : Nat) (v3 : Int32) (v5 : Int32) (σ : Sg) (r : (Int32 × Sg)) (h : p_X7_charge_L103  n v3 v5 σ = some r) {p : Program} {e : Env} {s : State} {m : MethodId} {args : Array Value} {below : List Frame} {meth : Method} {c : Code} (K : Cx p l s m args meth c cX7_charge 6 RX7 (some .int) D ty ρ N0) (hX : ∀ x ∈ c.exceptionTable.toList, False), WA p l e (rmk 5 0 0) s m args below meth c D ty ρ N0 6 (vx_MQ below (oQ D ty ρ N0 (oI r.1) r.2) (oX D ty ρ N0 (oI r.1) r.2) args s 0 0 (fun q => N0 ≤ q)) 103 [some (.ref (ρ 20 0)), none, none, some (.int v3), none, some (.int v5)] [] σ 0 0 := by
  intro n
  induction n with
  | zero =>
    intro v3 v5 σ r h
    simp only [p_X7_charge_L103] at h
    cases h
  | succ n ih =>
    intro v3 v5 σ r h p e s m args below meth c K hX
    have dq := @tat _ _ dt_X7_charge
    rw [p_X7_charge_L103] at h
    refine a_iload K (dq 59 rfl) rfl ?_
    refine a_aload_n K (dq 60 rfl) rfl rfl ?_
    refine a_get K (T := 20) (i := 0) (k := 18) (v := .int (gI σ 20 0 18)) v_20 rfl rfl in_X7 (Nat.le_of_ble_eq_true rfl) fl_X7_87 rfl (dq 61 rfl) ?_
    refine a_icmp_ge K (tgt := 137) (dq 62 rfl) rfl (fun c11 => ?_) (fun c11 => ?_)
    · have h := ite_t c11 h
      refine a_aload_n K (dq 78 rfl) rfl rfl ?_
      refine a_iconst K (dq 79 rfl) (v := 0) rfl ?_
      obtain ⟨r12, h12, h⟩ := bnd h
      refine a_callVi K (s_X7_pathToll S 0  σ r12 h12) v_20 rfl rfl cw_X7_pathToll ml_X7_143 (by decide) rfl (rest := []) rfl (Nat.le_of_ble_eq_true rfl) (dq 80 rfl) (by decide) ?_
      obtain rfl := Option.some.inj h
      exact a_iret K rfl rfl (dq 81 rfl) (Nat.le_of_ble_eq_true rfl) (Nat.le_of_ble_eq_true rfl) rfl rfl
    · have h := ite_f c11 h
      refine a_aload_n K (dq 63 rfl) rfl rfl ?_
      refine a_get K (T := 20) (i := 0) (k := 0) (v := .ref (ρ 21 0)) v_20 rfl rfl in_X7 (Nat.le_of_ble_eq_true rfl) fl_X7_7 rfl (dq 64 rfl) ?_
      refine a_bipush K (dq 65 rfl) (v := 8) rfl ?_
      refine a_aload_n K (dq 66 rfl) rfl rfl ?_
      refine a_get K (T := 20) (i := 0) (k := 17) (v := .ref (ρ 27 0)) v_20 rfl rfl in_X7 (Nat.le_of_ble_eq_true rfl) fl_X7_33 rfl (dq 67 rfl) ?_
      refine a_iload K (dq 68 rfl) rfl ?_
      obtain ⟨c13, h⟩ := ib_some h
      refine a_iald K (T := 27) (i := 0) v_27 rfl rfl c13 (dq 69 rfl) ?_
      refine a_iadd K (dq 70 rfl) ?_
      refine a_dup2 K (dq 71 rfl) rfl rfl ?_
      obtain ⟨c14, h⟩ := ib_some h
      refine a_iald K (T := 21) (i := 0) v_21 rfl rfl c14 (dq 72 rfl) ?_
      refine a_iload_n K (dq 73 rfl) rfl rfl ?_
      refine a_iadd K (dq 74 rfl) ?_
      obtain ⟨c15, h⟩ := ib_some h
      refine a_iast K (T := 21) (i := 0) v_21 rfl rfl c15 (dq 75 rfl) ?_
      refine a_iinc K (dq 76 rfl) rfl (v := (v5 + 1)) rfl (Nat.le_of_ble_eq_true rfl) (ls' := [some (.ref (ρ 20 0)), none, none, some (.int v3), none, some (.int (v5 + 1))]) rfl ?_
      refine a_goto K (tgt := 103) (dq 77 rfl) rfl ?_
      exact ih v3 (v5 + 1) (sA σ 21 0 (8 + (gA σ 27 0 v5.toNatClampNeg)).toNatClampNeg ((gA σ 21 0 (8 + (gA σ 27 0 v5.toNatClampNeg)).toNatClampNeg) + v3)) r h K hX
set_option maxRecDepth 20000 in
set_option maxHeartbeats 1000000 in
theorem s_X7_charge {l : Launch} {D : va_G} {ty : Nat → ClassId} {ρ : Nat → Nat → Nat} {N0 : Nat} (S : St l ty ρ N0) (a1 : Int32) (a2 : Int32) (a3 : Int32)  (σ : Sg) (r : (Int32 × Sg)) (h : p_X7_charge a1 a2 a3 σ = some r) : AMet l D ty ρ N0 yX7_charge (Cond.code yX7_charge cX7_charge 6 (some .int) :: GW) (rmk 5 0 0) [.ref (ρ 20 0), .int a1, .int a2, .int a3] σ (oI r.1) r.2 := by
  refine am_enter S (by decide) rfl rfl (Nat.le_of_ble_eq_true rfl) ?_
  intro p e s m args below meth c K hX
  have dq := @tat _ _ dt_X7_charge
  unfold p_X7_charge at h
  show WA p l e _ s m args below meth c D ty ρ N0 6 _ 0 [some (.ref (ρ 20 0)), some (.int a1), some (.int a2), some (.int a3), none, none] [] σ 0 0
  refine a_aload_n K (dq 0 rfl) rfl rfl ?_
  refine a_iload_n K (dq 1 rfl) rfl rfl ?_
  refine a_iload_n K (dq 2 rfl) rfl rfl ?_
  obtain ⟨r1, h1, h⟩ := bnd h
  refine a_callVi K (s_X7_areFarms S a1 a2  σ r1 h1) v_20 rfl rfl cw_X7_areFarms ml_X7_107 (by decide) rfl (rest := []) rfl (Nat.le_of_ble_eq_true rfl) (dq 3 rfl) (by decide) ?_
  refine a_if_ne K (tgt := 21) (dq 4 rfl) rfl (fun c2 => ?_) (fun c2 => ?_)
  · have h := ite_f c2 h
    refine a_iload_n K (dq 13 rfl) rfl rfl ?_
    refine a_bipush K (dq 14 rfl) (v := (-50)) rfl ?_
    refine a_bipush K (dq 15 rfl) (v := 50) rfl ?_
    obtain ⟨r3, h3, h⟩ := bnd h
    refine a_callSi K (s_X7_in S a3 (-50) 50  σ r3 h3) cw_X7_in ml_X7_65 (by decide) rfl (rest := []) rfl (Nat.le_of_ble_eq_true rfl) (dq 16 rfl) (by decide) ?_
    refine a_if_ne K (tgt := 39) (dq 17 rfl) rfl (fun c4 => ?_) (fun c4 => ?_)
    · have h := ite_f c4 h
      refine a_aload_n K (dq 23 rfl) rfl rfl ?_
      refine a_iload_n K (dq 24 rfl) rfl rfl ?_
      refine a_iload_n K (dq 25 rfl) rfl rfl ?_
      obtain ⟨r5, h5, h⟩ := bnd h
      refine a_callVi K (s_X7_areJoined S a1 a2  σ r5 h5) v_20 rfl rfl cw_X7_areJoined ml_X7_76 (by decide) rfl (rest := []) rfl (Nat.le_of_ble_eq_true rfl) (dq 26 rfl) (by decide) ?_
      refine a_if_ne K (tgt := 60) (dq 27 rfl) rfl (fun c6 => ?_) (fun c6 => ?_)
      · have h := ite_f c6 h
        refine a_aload_n K (dq 35 rfl) rfl rfl ?_
        refine a_iload_n K (dq 36 rfl) rfl rfl ?_
        refine a_iload_n K (dq 37 rfl) rfl rfl ?_
        obtain ⟨r7, h7, h⟩ := bnd h
        refine a_callVv K (s_X7_goes S a1 a2  σ r7 h7) v_20 rfl rfl cw_X7_goes ml_X7_113 (by decide) rfl (rest := []) rfl (Nat.le_of_ble_eq_true rfl) (dq 38 rfl) (by decide) ?_
        refine a_aload_n K (dq 39 rfl) rfl rfl ?_
        refine a_iload_n K (dq 40 rfl) rfl rfl ?_
        obtain ⟨r8, h8, h⟩ := bnd h
        refine a_callVi K (s_X7_tooMuch S a3  r7 r8 h8) v_20 rfl rfl cw_X7_tooMuch ml_X7_140 (by decide) rfl (rest := []) rfl (Nat.le_of_ble_eq_true rfl) (dq 41 rfl) (by decide) ?_
        refine a_istore K (dq 42 rfl) (Nat.le_of_ble_eq_true rfl) (ls' := [some (.ref (ρ 20 0)), some (.int a1), some (.int a2), some (.int a3), some (.int r8), none]) rfl ?_
        refine a_iload K (dq 43 rfl) rfl ?_
        refine a_if_lt K (tgt := 92) (dq 44 rfl) rfl (fun c9 => ?_) (fun c9 => ?_)
        · have h := ite_t c9 h
          refine a_aload_n K (dq 53 rfl) rfl rfl ?_
          refine a_aload_n K (dq 54 rfl) rfl rfl ?_
          refine a_get K (T := 20) (i := 0) (k := 0) (v := .ref (ρ 21 0)) v_20 rfl rfl in_X7 (Nat.le_of_ble_eq_true rfl) fl_X7_7 rfl (dq 55 rfl) ?_
          obtain ⟨r10, h10, h⟩ := bnd h
          refine a_callVv K (s_X7_keeps S 21 v_21 rfl rfl r7 r10 h10) v_20 rfl rfl cw_X7_keeps ml_X7_99 (by decide) rfl (rest := []) rfl (Nat.le_of_ble_eq_true rfl) (dq 56 rfl) (by decide) ?_
          refine a_iconst K (dq 57 rfl) (v := 0) rfl ?_
          refine a_istore K (dq 58 rfl) (Nat.le_of_ble_eq_true rfl) (ls' := [some (.ref (ρ 20 0)), some (.int a1), some (.int a2), some (.int a3), some (.int r8), some (.int 0)]) rfl ?_
          refine a_le2 (ls' := [some (.ref (ρ 20 0)), none, none, some (.int a3), none, some (.int 0)]) ⟨rfl, rfl, rfl, trivial⟩ ?_
          exact s_X7_charge_L103 S    400 a3 0 r10 r h K hX
        · have h := ite_f c9 h
          refine a_aload_n K (dq 45 rfl) rfl rfl ?_
          refine a_bipush K (dq 46 rfl) (v := 9) rfl ?_
          refine a_aload_n K (dq 47 rfl) rfl rfl ?_
          refine a_get K (T := 20) (i := 0) (k := 17) (v := .ref (ρ 27 0)) v_20 rfl rfl in_X7 (Nat.le_of_ble_eq_true rfl) fl_X7_33 rfl (dq 48 rfl) ?_
          refine a_iload K (dq 49 rfl) rfl ?_
          obtain ⟨c16, h⟩ := ib_some h
          refine a_iald K (T := 27) (i := 0) v_27 rfl rfl c16 (dq 50 rfl) ?_
          obtain ⟨r17, h17, h⟩ := bnd h
          refine a_callVi K (s_X7_refuses S 9 (gA r7 27 0 r8.toNatClampNeg)  r7 r17 h17) v_20 rfl rfl cw_X7_refuses ml_X7_96 (by decide) rfl (rest := []) rfl (Nat.le_of_ble_eq_true rfl) (dq 51 rfl) (by decide) ?_
          obtain rfl := Option.some.inj h
          exact a_iret K rfl rfl (dq 52 rfl) (Nat.le_of_ble_eq_true rfl) (Nat.le_of_ble_eq_true rfl) rfl rfl
      · have h := ite_t c6 h
        refine a_aload_n K (dq 28 rfl) rfl rfl ?_
        refine a_bipush K (dq 29 rfl) (v := 7) rfl ?_
        refine a_aload_n K (dq 30 rfl) rfl rfl ?_
        refine a_iload_n K (dq 31 rfl) rfl rfl ?_
        obtain ⟨r18, h18, h⟩ := bnd h
        refine a_callVi K (s_X7_sizeOf S a1  σ r18 h18) v_20 rfl rfl cw_X7_sizeOf ml_X7_121 (by decide) rfl (rest := [.int 7, .ref (ρ 20 0)]) rfl (Nat.le_of_ble_eq_true rfl) (dq 32 rfl) (by decide) ?_
        obtain ⟨r19, h19, h⟩ := bnd h
        refine a_callVi K (s_X7_refuses S 7 r18  σ r19 h19) v_20 rfl rfl cw_X7_refuses ml_X7_96 (by decide) rfl (rest := []) rfl (Nat.le_of_ble_eq_true rfl) (dq 33 rfl) (by decide) ?_
        obtain rfl := Option.some.inj h
        exact a_iret K rfl rfl (dq 34 rfl) (Nat.le_of_ble_eq_true rfl) (Nat.le_of_ble_eq_true rfl) rfl rfl
    · have h := ite_t c4 h
      refine a_aload_n K (dq 18 rfl) rfl rfl ?_
      refine a_iconst K (dq 19 rfl) (v := 1) rfl ?_
      refine a_iconst K (dq 20 rfl) (v := 0) rfl ?_
      obtain ⟨r20, h20, h⟩ := bnd h
      refine a_callVi K (s_X7_refuses S 1 0  σ r20 h20) v_20 rfl rfl cw_X7_refuses ml_X7_96 (by decide) rfl (rest := []) rfl (Nat.le_of_ble_eq_true rfl) (dq 21 rfl) (by decide) ?_
      obtain rfl := Option.some.inj h
      exact a_iret K rfl rfl (dq 22 rfl) (Nat.le_of_ble_eq_true rfl) (Nat.le_of_ble_eq_true rfl) rfl rfl
  · have h := ite_t c2 h
    refine a_aload_n K (dq 5 rfl) rfl rfl ?_
    refine a_iconst K (dq 6 rfl) (v := 3) rfl ?_
    refine a_aload_n K (dq 7 rfl) rfl rfl ?_
    refine a_iload_n K (dq 8 rfl) rfl rfl ?_
    refine a_iload_n K (dq 9 rfl) rfl rfl ?_
    obtain ⟨r21, h21, h⟩ := bnd h
    refine a_callVi K (s_X7_noFarm S a1 a2  σ r21 h21) v_20 rfl rfl cw_X7_noFarm ml_X7_110 (by decide) rfl (rest := [.int 3, .ref (ρ 20 0)]) rfl (Nat.le_of_ble_eq_true rfl) (dq 10 rfl) (by decide) ?_
    obtain ⟨r22, h22, h⟩ := bnd h
    refine a_callVi K (s_X7_refuses S 3 r21  σ r22 h22) v_20 rfl rfl cw_X7_refuses ml_X7_96 (by decide) rfl (rest := []) rfl (Nat.le_of_ble_eq_true rfl) (dq 11 rfl) (by decide) ?_
    obtain rfl := Option.some.inj h
    exact a_iret K rfl rfl (dq 12 rfl) (Nat.le_of_ble_eq_true rfl) (Nat.le_of_ble_eq_true rfl) rfl rfl
def t_X7_drive : List (Nat × Instr × Nat) := [(0, .iload_n 1, 1), (1, .iconst 0, 1), (2, .iconst 2, 1), (3, .invokestatic 65, 3), (6, .ifCond .ne 10, 3), (9, .aload_n 0, 1), (10, .iconst 1, 1), (11, .iconst 0, 1), (12, .invokevirtual 96, 3), (15, .ireturn, 1), (16, .aload_n 0, 1), (17, .iload_n 2, 1), (18, .invokevirtual 103, 3), (21, .ifCond .ne 10, 3), (24, .aload_n 0, 1), (25, .iconst 3, 1), (26, .iload_n 2, 1), (27, .invokevirtual 96, 3), (30, .ireturn, 1), (31, .aload_n 0, 1), (32, .getfield 7, 3), (35, .iconst 5, 1), (36, .iload_n 1, 1), (37, .iadd, 1), (38, .iaload, 1), (39, .istore_n 3, 1), (40, .iload_n 3, 1), (41, .iload_n 2, 1), (42, .if_icmp .ne 11, 3), (45, .aload_n 0, 1), (46, .bipush 10, 2), (48, .iload_n 2, 1), (49, .invokevirtual 96, 3), (52, .ireturn, 1), (53, .iload_n 3, 1), (54, .ifCond .lt 24, 3), (57, .aload_n 0, 1), (58, .iload_n 3, 1), (59, .iload_n 2, 1), (60, .invokevirtual 76, 3), (63, .ifCond .ne 15, 3), (66, .aload_n 0, 1), (67, .bipush 7, 2), (69, .aload_n 0, 1), (70, .iload_n 3, 1), (71, .invokevirtual 121, 3), (74, .invokevirtual 96, 3), (77, .ireturn, 1), (78, .aload_n 0, 1), (79, .aload_n 0, 1), (80, .getfield 7, 3), (83, .invokevirtual 99, 3), (86, .aload_n 0, 1), (87, .getfield 7, 3), (90, .iconst 5, 1), (91, .iload_n 1, 1), (92, .iadd, 1), (93, .iload_n 2, 1), (94, .iastore, 1), (95, .iload_n 3, 1), (96, .ifCond .ge 5, 3), (99, .iconst 0, 1), (100, .ireturn, 1), (101, .aload_n 0, 1), (102, .iload_n 3, 1), (103, .iload_n 2, 1), (104, .invokevirtual 113, 3), (107, .aload_n 0, 1), (108, .iconst 1, 1), (109, .invokevirtual 143, 3), (112, .istore 4, 2), (114, .aload_n 0, 1), (115, .iload_n 2, 1), (116, .invokevirtual 137, 3), (119, .istore 5, 2), (121, .aload_n 0, 1), (122, .getfield 7, 3), (125, .iconst 3, 1), (126, .dup2, 1), (127, .iaload, 1), (128, .iload 5, 2), (130, .ifCond .ge 7, 3), (133, .iconst 0, 1), (134, .goto 4, 3), (137, .iconst 1, 1), (138, .iadd, 1), (139, .iastore, 1), (140, .aload_n 0, 1), (141, .getfield 7, 3), (144, .iconst 4, 1), (145, .dup2, 1), (146, .iaload, 1), (147, .iload 4, 2), (149, .iadd, 1), (150, .iastore, 1), (151, .iload 4, 2), (153, .ireturn, 1)]
theorem dt_X7_drive : tblOK cX7_drive t_X7_drive = true := by decide +kernel
def p_X7_drive (a1 : Int32) (a2 : Int32) (σ : Sg) : Option (Int32 × Sg) :=
  (p_X7_in a1 0 2 σ).bind fun r1 => if r1 = 0 then ((p_X7_refuses 1 0 σ).bind fun r28 => some (r28.1, r28.2)) else ((p_X7_isFarm a2 σ).bind fun r3 => if r3 = 0 then ((p_X7_refuses 3 a2 σ).bind fun r27 => some (r27.1, r27.2)) else (if ib (5 + a1) 44 then (if (gA σ 21 0 (5 + a1).toNatClampNeg) = a2 then ((p_X7_refuses 10 a2 σ).bind fun r26 => some (r26.1, r26.2)) else (if (gA σ 21 0 (5 + a1).toNatClampNeg) < 0 then ((p_X7_keeps 21 σ).bind fun r8 => if ib (5 + a1) 44 then (if 0 ≤ (gA σ 21 0 (5 + a1).toNatClampNeg) then ((p_X7_goes (gA σ 21 0 (5 + a1).toNatClampNeg) a2 (sA r8 21 0 (5 + a1).toNatClampNeg a2)).bind fun r11 => (p_X7_pathToll 1 r11).bind fun r12 => (p_X7_counted a2 r11).bind fun r13 => if 0 ≤ r13.1 then (some (r12, sA (sA r13.2 21 0 3 ((gA r13.2 21 0 3) + 1)) 21 0 4 ((gA (sA r13.2 21 0 3 ((gA r13.2 21 0 3) + 1)) 21 0 4) + r12))) else (some (r12, sA (sA r13.2 21 0 3 ((gA r13.2 21 0 3) + 0)) 21 0 4 ((gA (sA r13.2 21 0 3 ((gA r13.2 21 0 3) + 0)) 21 0 4) + r12)))) else (some (0, sA r8 21 0 (5 + a1).toNatClampNeg a2))) else none) else ((p_X7_areJoined (gA σ 21 0 (5 + a1).toNatClampNeg) a2 σ).bind fun r15 => if r15 = 0 then ((p_X7_sizeOf (gA σ 21 0 (5 + a1).toNatClampNeg) σ).bind fun r24 => (p_X7_refuses 7 r24 σ).bind fun r25 => some (r25.1, r25.2)) else ((p_X7_keeps 21 σ).bind fun r17 => if ib (5 + a1) 44 then (if 0 ≤ (gA σ 21 0 (5 + a1).toNatClampNeg) then ((p_X7_goes (gA σ 21 0 (5 + a1).toNatClampNeg) a2 (sA r17 21 0 (5 + a1).toNatClampNeg a2)).bind fun r20 => (p_X7_pathToll 1 r20).bind fun r21 => (p_X7_counted a2 r20).bind fun r22 => if 0 ≤ r22.1 then (some (r21, sA (sA r22.2 21 0 3 ((gA r22.2 21 0 3) + 1)) 21 0 4 ((gA (sA r22.2 21 0 3 ((gA r22.2 21 0 3) + 1)) 21 0 4) + r21))) else (some (r21, sA (sA r22.2 21 0 3 ((gA r22.2 21 0 3) + 0)) 21 0 4 ((gA (sA r22.2 21 0 3 ((gA r22.2 21 0 3) + 0)) 21 0 4) + r21)))) else (some (0, sA r17 21 0 (5 + a1).toNatClampNeg a2))) else none)))) else none))
set_option maxRecDepth 20000 in
set_option maxHeartbeats 1000000 in
theorem s_X7_drive {l : Launch} {D : va_G} {ty : Nat → ClassId} {ρ : Nat → Nat → Nat} {N0 : Nat} (S : St l ty ρ N0) (a1 : Int32) (a2 : Int32)  (σ : Sg) (r : (Int32 × Sg)) (h : p_X7_drive a1 a2 σ = some r) : AMet l D ty ρ N0 yX7_drive (Cond.code yX7_drive cX7_drive 6 (some .int) :: GW) (rmk 5 0 0) [.ref (ρ 20 0), .int a1, .int a2] σ (oI r.1) r.2 := by
  refine am_enter S (by decide) rfl rfl (Nat.le_of_ble_eq_true rfl) ?_
  intro p e s m args below meth c K hX
  have dq := @tat _ _ dt_X7_drive
  unfold p_X7_drive at h
  show WA p l e _ s m args below meth c D ty ρ N0 6 _ 0 [some (.ref (ρ 20 0)), some (.int a1), some (.int a2), none, none, none] [] σ 0 0
  refine a_iload_n K (dq 0 rfl) rfl rfl ?_
  refine a_iconst K (dq 1 rfl) (v := 0) rfl ?_
  refine a_iconst K (dq 2 rfl) (v := 2) rfl ?_
  obtain ⟨r1, h1, h⟩ := bnd h
  refine a_callSi K (s_X7_in S a1 0 2  σ r1 h1) cw_X7_in ml_X7_65 (by decide) rfl (rest := []) rfl (Nat.le_of_ble_eq_true rfl) (dq 3 rfl) (by decide) ?_
  refine a_if_ne K (tgt := 16) (dq 4 rfl) rfl (fun c2 => ?_) (fun c2 => ?_)
  · have h := ite_f c2 h
    refine a_aload_n K (dq 10 rfl) rfl rfl ?_
    refine a_iload_n K (dq 11 rfl) rfl rfl ?_
    obtain ⟨r3, h3, h⟩ := bnd h
    refine a_callVi K (s_X7_isFarm S a2  σ r3 h3) v_20 rfl rfl cw_X7_isFarm ml_X7_103 (by decide) rfl (rest := []) rfl (Nat.le_of_ble_eq_true rfl) (dq 12 rfl) (by decide) ?_
    refine a_if_ne K (tgt := 31) (dq 13 rfl) rfl (fun c4 => ?_) (fun c4 => ?_)
    · have h := ite_f c4 h
      refine a_aload_n K (dq 19 rfl) rfl rfl ?_
      refine a_get K (T := 20) (i := 0) (k := 0) (v := .ref (ρ 21 0)) v_20 rfl rfl in_X7 (Nat.le_of_ble_eq_true rfl) fl_X7_7 rfl (dq 20 rfl) ?_
      refine a_iconst K (dq 21 rfl) (v := 5) rfl ?_
      refine a_iload_n K (dq 22 rfl) rfl rfl ?_
      refine a_iadd K (dq 23 rfl) ?_
      obtain ⟨c5, h⟩ := ib_some h
      refine a_iald K (T := 21) (i := 0) v_21 rfl rfl c5 (dq 24 rfl) ?_
      refine a_istore_n K (dq 25 rfl) rfl (Nat.le_of_ble_eq_true rfl) (ls' := [some (.ref (ρ 20 0)), some (.int a1), some (.int a2), some (.int (gA σ 21 0 (5 + a1).toNatClampNeg)), none, none]) rfl ?_
      refine a_iload_n K (dq 26 rfl) rfl rfl ?_
      refine a_iload_n K (dq 27 rfl) rfl rfl ?_
      refine a_icmp_ne K (tgt := 53) (dq 28 rfl) rfl (fun c6 => ?_) (fun c6 => ?_)
      · have h := ite_f c6 h
        refine a_iload_n K (dq 34 rfl) rfl rfl ?_
        refine a_if_lt K (tgt := 78) (dq 35 rfl) rfl (fun c7 => ?_) (fun c7 => ?_)
        · have h := ite_t c7 h
          refine a_aload_n K (dq 48 rfl) rfl rfl ?_
          refine a_aload_n K (dq 49 rfl) rfl rfl ?_
          refine a_get K (T := 20) (i := 0) (k := 0) (v := .ref (ρ 21 0)) v_20 rfl rfl in_X7 (Nat.le_of_ble_eq_true rfl) fl_X7_7 rfl (dq 50 rfl) ?_
          obtain ⟨r8, h8, h⟩ := bnd h
          refine a_callVv K (s_X7_keeps S 21 v_21 rfl rfl σ r8 h8) v_20 rfl rfl cw_X7_keeps ml_X7_99 (by decide) rfl (rest := []) rfl (Nat.le_of_ble_eq_true rfl) (dq 51 rfl) (by decide) ?_
          refine a_aload_n K (dq 52 rfl) rfl rfl ?_
          refine a_get K (T := 20) (i := 0) (k := 0) (v := .ref (ρ 21 0)) v_20 rfl rfl in_X7 (Nat.le_of_ble_eq_true rfl) fl_X7_7 rfl (dq 53 rfl) ?_
          refine a_iconst K (dq 54 rfl) (v := 5) rfl ?_
          refine a_iload_n K (dq 55 rfl) rfl rfl ?_
          refine a_iadd K (dq 56 rfl) ?_
          refine a_iload_n K (dq 57 rfl) rfl rfl ?_
          obtain ⟨c9, h⟩ := ib_some h
          refine a_iast K (T := 21) (i := 0) v_21 rfl rfl c9 (dq 58 rfl) ?_
          refine a_iload_n K (dq 59 rfl) rfl rfl ?_
          refine a_if_ge K (tgt := 101) (dq 60 rfl) rfl (fun c10 => ?_) (fun c10 => ?_)
          · have h := ite_t c10 h
            refine a_aload_n K (dq 63 rfl) rfl rfl ?_
            refine a_iload_n K (dq 64 rfl) rfl rfl ?_
            refine a_iload_n K (dq 65 rfl) rfl rfl ?_
            obtain ⟨r11, h11, h⟩ := bnd h
            refine a_callVv K (s_X7_goes S (gA σ 21 0 (5 + a1).toNatClampNeg) a2  (sA r8 21 0 (5 + a1).toNatClampNeg a2) r11 h11) v_20 rfl rfl cw_X7_goes ml_X7_113 (by decide) rfl (rest := []) rfl (Nat.le_of_ble_eq_true rfl) (dq 66 rfl) (by decide) ?_
            refine a_aload_n K (dq 67 rfl) rfl rfl ?_
            refine a_iconst K (dq 68 rfl) (v := 1) rfl ?_
            obtain ⟨r12, h12, h⟩ := bnd h
            refine a_callVi K (s_X7_pathToll S 1  r11 r12 h12) v_20 rfl rfl cw_X7_pathToll ml_X7_143 (by decide) rfl (rest := []) rfl (Nat.le_of_ble_eq_true rfl) (dq 69 rfl) (by decide) ?_
            refine a_istore K (dq 70 rfl) (Nat.le_of_ble_eq_true rfl) (ls' := [some (.ref (ρ 20 0)), some (.int a1), some (.int a2), some (.int (gA σ 21 0 (5 + a1).toNatClampNeg)), some (.int r12), none]) rfl ?_
            refine a_aload_n K (dq 71 rfl) rfl rfl ?_
            refine a_iload_n K (dq 72 rfl) rfl rfl ?_
            obtain ⟨r13, h13, h⟩ := bnd h
            refine a_callVi K (s_X7_counted S a2  r11 r13 h13) v_20 rfl rfl cw_X7_counted ml_X7_137 (by decide) rfl (rest := []) rfl (Nat.le_of_ble_eq_true rfl) (dq 73 rfl) (by decide) ?_
            refine a_istore K (dq 74 rfl) (Nat.le_of_ble_eq_true rfl) (ls' := [some (.ref (ρ 20 0)), some (.int a1), some (.int a2), some (.int (gA σ 21 0 (5 + a1).toNatClampNeg)), some (.int r12), some (.int r13.1)]) rfl ?_
            refine a_aload_n K (dq 75 rfl) rfl rfl ?_
            refine a_get K (T := 20) (i := 0) (k := 0) (v := .ref (ρ 21 0)) v_20 rfl rfl in_X7 (Nat.le_of_ble_eq_true rfl) fl_X7_7 rfl (dq 76 rfl) ?_
            refine a_iconst K (dq 77 rfl) (v := 3) rfl ?_
            refine a_dup2 K (dq 78 rfl) rfl rfl ?_
            refine a_ialdK K (T := 21) (i := 0) (nj := 3) v_21 rfl rfl (ib_in rfl) rfl (dq 79 rfl) ?_
            refine a_iload K (dq 80 rfl) rfl ?_
            refine a_if_ge K (tgt := 137) (dq 81 rfl) rfl (fun c14 => ?_) (fun c14 => ?_)
            · have h := ite_t c14 h
              refine a_iconst K (dq 84 rfl) (v := 1) rfl ?_
              refine a_iadd K (dq 85 rfl) ?_
              refine a_iastK K (T := 21) (i := 0) (nj := 3) v_21 rfl rfl (ib_in rfl) rfl (dq 86 rfl) ?_
              refine a_aload_n K (dq 87 rfl) rfl rfl ?_
              refine a_get K (T := 20) (i := 0) (k := 0) (v := .ref (ρ 21 0)) v_20 rfl rfl in_X7 (Nat.le_of_ble_eq_true rfl) fl_X7_7 rfl (dq 88 rfl) ?_
              refine a_iconst K (dq 89 rfl) (v := 4) rfl ?_
              refine a_dup2 K (dq 90 rfl) rfl rfl ?_
              refine a_ialdK K (T := 21) (i := 0) (nj := 4) v_21 rfl rfl (ib_in rfl) rfl (dq 91 rfl) ?_
              refine a_iload K (dq 92 rfl) rfl ?_
              refine a_iadd K (dq 93 rfl) ?_
              refine a_iastK K (T := 21) (i := 0) (nj := 4) v_21 rfl rfl (ib_in rfl) rfl (dq 94 rfl) ?_
              refine a_iload K (dq 95 rfl) rfl ?_
              obtain rfl := Option.some.inj h
              exact a_iret K rfl rfl (dq 96 rfl) (Nat.le_of_ble_eq_true rfl) (Nat.le_of_ble_eq_true rfl) rfl rfl
            · have h := ite_f c14 h
              refine a_iconst K (dq 82 rfl) (v := 0) rfl ?_
              refine a_goto K (tgt := 138) (dq 83 rfl) rfl ?_
              refine a_iadd K (dq 85 rfl) ?_
              refine a_iastK K (T := 21) (i := 0) (nj := 3) v_21 rfl rfl (ib_in rfl) rfl (dq 86 rfl) ?_
              refine a_aload_n K (dq 87 rfl) rfl rfl ?_
              refine a_get K (T := 20) (i := 0) (k := 0) (v := .ref (ρ 21 0)) v_20 rfl rfl in_X7 (Nat.le_of_ble_eq_true rfl) fl_X7_7 rfl (dq 88 rfl) ?_
              refine a_iconst K (dq 89 rfl) (v := 4) rfl ?_
              refine a_dup2 K (dq 90 rfl) rfl rfl ?_
              refine a_ialdK K (T := 21) (i := 0) (nj := 4) v_21 rfl rfl (ib_in rfl) rfl (dq 91 rfl) ?_
              refine a_iload K (dq 92 rfl) rfl ?_
              refine a_iadd K (dq 93 rfl) ?_
              refine a_iastK K (T := 21) (i := 0) (nj := 4) v_21 rfl rfl (ib_in rfl) rfl (dq 94 rfl) ?_
              refine a_iload K (dq 95 rfl) rfl ?_
              obtain rfl := Option.some.inj h
              exact a_iret K rfl rfl (dq 96 rfl) (Nat.le_of_ble_eq_true rfl) (Nat.le_of_ble_eq_true rfl) rfl rfl
          · have h := ite_f c10 h
            refine a_iconst K (dq 61 rfl) (v := 0) rfl ?_
            obtain rfl := Option.some.inj h
            exact a_iret K rfl rfl (dq 62 rfl) (Nat.le_of_ble_eq_true rfl) (Nat.le_of_ble_eq_true rfl) rfl rfl
        · have h := ite_f c7 h
          refine a_aload_n K (dq 36 rfl) rfl rfl ?_
          refine a_iload_n K (dq 37 rfl) rfl rfl ?_
          refine a_iload_n K (dq 38 rfl) rfl rfl ?_
          obtain ⟨r15, h15, h⟩ := bnd h
          refine a_callVi K (s_X7_areJoined S (gA σ 21 0 (5 + a1).toNatClampNeg) a2  σ r15 h15) v_20 rfl rfl cw_X7_areJoined ml_X7_76 (by decide) rfl (rest := []) rfl (Nat.le_of_ble_eq_true rfl) (dq 39 rfl) (by decide) ?_
          refine a_if_ne K (tgt := 78) (dq 40 rfl) rfl (fun c16 => ?_) (fun c16 => ?_)
          · have h := ite_f c16 h
            refine a_aload_n K (dq 48 rfl) rfl rfl ?_
            refine a_aload_n K (dq 49 rfl) rfl rfl ?_
            refine a_get K (T := 20) (i := 0) (k := 0) (v := .ref (ρ 21 0)) v_20 rfl rfl in_X7 (Nat.le_of_ble_eq_true rfl) fl_X7_7 rfl (dq 50 rfl) ?_
            obtain ⟨r17, h17, h⟩ := bnd h
            refine a_callVv K (s_X7_keeps S 21 v_21 rfl rfl σ r17 h17) v_20 rfl rfl cw_X7_keeps ml_X7_99 (by decide) rfl (rest := []) rfl (Nat.le_of_ble_eq_true rfl) (dq 51 rfl) (by decide) ?_
            refine a_aload_n K (dq 52 rfl) rfl rfl ?_
            refine a_get K (T := 20) (i := 0) (k := 0) (v := .ref (ρ 21 0)) v_20 rfl rfl in_X7 (Nat.le_of_ble_eq_true rfl) fl_X7_7 rfl (dq 53 rfl) ?_
            refine a_iconst K (dq 54 rfl) (v := 5) rfl ?_
            refine a_iload_n K (dq 55 rfl) rfl rfl ?_
            refine a_iadd K (dq 56 rfl) ?_
            refine a_iload_n K (dq 57 rfl) rfl rfl ?_
            obtain ⟨c18, h⟩ := ib_some h
            refine a_iast K (T := 21) (i := 0) v_21 rfl rfl c18 (dq 58 rfl) ?_
            refine a_iload_n K (dq 59 rfl) rfl rfl ?_
            refine a_if_ge K (tgt := 101) (dq 60 rfl) rfl (fun c19 => ?_) (fun c19 => ?_)
            · have h := ite_t c19 h
              refine a_aload_n K (dq 63 rfl) rfl rfl ?_
              refine a_iload_n K (dq 64 rfl) rfl rfl ?_
              refine a_iload_n K (dq 65 rfl) rfl rfl ?_
              obtain ⟨r20, h20, h⟩ := bnd h
              refine a_callVv K (s_X7_goes S (gA σ 21 0 (5 + a1).toNatClampNeg) a2  (sA r17 21 0 (5 + a1).toNatClampNeg a2) r20 h20) v_20 rfl rfl cw_X7_goes ml_X7_113 (by decide) rfl (rest := []) rfl (Nat.le_of_ble_eq_true rfl) (dq 66 rfl) (by decide) ?_
              refine a_aload_n K (dq 67 rfl) rfl rfl ?_
              refine a_iconst K (dq 68 rfl) (v := 1) rfl ?_
              obtain ⟨r21, h21, h⟩ := bnd h
              refine a_callVi K (s_X7_pathToll S 1  r20 r21 h21) v_20 rfl rfl cw_X7_pathToll ml_X7_143 (by decide) rfl (rest := []) rfl (Nat.le_of_ble_eq_true rfl) (dq 69 rfl) (by decide) ?_
              refine a_istore K (dq 70 rfl) (Nat.le_of_ble_eq_true rfl) (ls' := [some (.ref (ρ 20 0)), some (.int a1), some (.int a2), some (.int (gA σ 21 0 (5 + a1).toNatClampNeg)), some (.int r21), none]) rfl ?_
              refine a_aload_n K (dq 71 rfl) rfl rfl ?_
              refine a_iload_n K (dq 72 rfl) rfl rfl ?_
              obtain ⟨r22, h22, h⟩ := bnd h
              refine a_callVi K (s_X7_counted S a2  r20 r22 h22) v_20 rfl rfl cw_X7_counted ml_X7_137 (by decide) rfl (rest := []) rfl (Nat.le_of_ble_eq_true rfl) (dq 73 rfl) (by decide) ?_
              refine a_istore K (dq 74 rfl) (Nat.le_of_ble_eq_true rfl) (ls' := [some (.ref (ρ 20 0)), some (.int a1), some (.int a2), some (.int (gA σ 21 0 (5 + a1).toNatClampNeg)), some (.int r21), some (.int r22.1)]) rfl ?_
              refine a_aload_n K (dq 75 rfl) rfl rfl ?_
              refine a_get K (T := 20) (i := 0) (k := 0) (v := .ref (ρ 21 0)) v_20 rfl rfl in_X7 (Nat.le_of_ble_eq_true rfl) fl_X7_7 rfl (dq 76 rfl) ?_
              refine a_iconst K (dq 77 rfl) (v := 3) rfl ?_
              refine a_dup2 K (dq 78 rfl) rfl rfl ?_
              refine a_ialdK K (T := 21) (i := 0) (nj := 3) v_21 rfl rfl (ib_in rfl) rfl (dq 79 rfl) ?_
              refine a_iload K (dq 80 rfl) rfl ?_
              refine a_if_ge K (tgt := 137) (dq 81 rfl) rfl (fun c23 => ?_) (fun c23 => ?_)
              · have h := ite_t c23 h
                refine a_iconst K (dq 84 rfl) (v := 1) rfl ?_
                refine a_iadd K (dq 85 rfl) ?_
                refine a_iastK K (T := 21) (i := 0) (nj := 3) v_21 rfl rfl (ib_in rfl) rfl (dq 86 rfl) ?_
                refine a_aload_n K (dq 87 rfl) rfl rfl ?_
                refine a_get K (T := 20) (i := 0) (k := 0) (v := .ref (ρ 21 0)) v_20 rfl rfl in_X7 (Nat.le_of_ble_eq_true rfl) fl_X7_7 rfl (dq 88 rfl) ?_
                refine a_iconst K (dq 89 rfl) (v := 4) rfl ?_
                refine a_dup2 K (dq 90 rfl) rfl rfl ?_
                refine a_ialdK K (T := 21) (i := 0) (nj := 4) v_21 rfl rfl (ib_in rfl) rfl (dq 91 rfl) ?_
                refine a_iload K (dq 92 rfl) rfl ?_
                refine a_iadd K (dq 93 rfl) ?_
                refine a_iastK K (T := 21) (i := 0) (nj := 4) v_21 rfl rfl (ib_in rfl) rfl (dq 94 rfl) ?_
                refine a_iload K (dq 95 rfl) rfl ?_
                obtain rfl := Option.some.inj h
                exact a_iret K rfl rfl (dq 96 rfl) (Nat.le_of_ble_eq_true rfl) (Nat.le_of_ble_eq_true rfl) rfl rfl
              · have h := ite_f c23 h
                refine a_iconst K (dq 82 rfl) (v := 0) rfl ?_
                refine a_goto K (tgt := 138) (dq 83 rfl) rfl ?_
                refine a_iadd K (dq 85 rfl) ?_
                refine a_iastK K (T := 21) (i := 0) (nj := 3) v_21 rfl rfl (ib_in rfl) rfl (dq 86 rfl) ?_
                refine a_aload_n K (dq 87 rfl) rfl rfl ?_
                refine a_get K (T := 20) (i := 0) (k := 0) (v := .ref (ρ 21 0)) v_20 rfl rfl in_X7 (Nat.le_of_ble_eq_true rfl) fl_X7_7 rfl (dq 88 rfl) ?_
                refine a_iconst K (dq 89 rfl) (v := 4) rfl ?_
                refine a_dup2 K (dq 90 rfl) rfl rfl ?_
                refine a_ialdK K (T := 21) (i := 0) (nj := 4) v_21 rfl rfl (ib_in rfl) rfl (dq 91 rfl) ?_
                refine a_iload K (dq 92 rfl) rfl ?_
                refine a_iadd K (dq 93 rfl) ?_
                refine a_iastK K (T := 21) (i := 0) (nj := 4) v_21 rfl rfl (ib_in rfl) rfl (dq 94 rfl) ?_
                refine a_iload K (dq 95 rfl) rfl ?_
                obtain rfl := Option.some.inj h
                exact a_iret K rfl rfl (dq 96 rfl) (Nat.le_of_ble_eq_true rfl) (Nat.le_of_ble_eq_true rfl) rfl rfl
            · have h := ite_f c19 h
              refine a_iconst K (dq 61 rfl) (v := 0) rfl ?_
              obtain rfl := Option.some.inj h
              exact a_iret K rfl rfl (dq 62 rfl) (Nat.le_of_ble_eq_true rfl) (Nat.le_of_ble_eq_true rfl) rfl rfl
          · have h := ite_t c16 h
            refine a_aload_n K (dq 41 rfl) rfl rfl ?_
            refine a_bipush K (dq 42 rfl) (v := 7) rfl ?_
            refine a_aload_n K (dq 43 rfl) rfl rfl ?_
            refine a_iload_n K (dq 44 rfl) rfl rfl ?_
            obtain ⟨r24, h24, h⟩ := bnd h
            refine a_callVi K (s_X7_sizeOf S (gA σ 21 0 (5 + a1).toNatClampNeg)  σ r24 h24) v_20 rfl rfl cw_X7_sizeOf ml_X7_121 (by decide) rfl (rest := [.int 7, .ref (ρ 20 0)]) rfl (Nat.le_of_ble_eq_true rfl) (dq 45 rfl) (by decide) ?_
            obtain ⟨r25, h25, h⟩ := bnd h
            refine a_callVi K (s_X7_refuses S 7 r24  σ r25 h25) v_20 rfl rfl cw_X7_refuses ml_X7_96 (by decide) rfl (rest := []) rfl (Nat.le_of_ble_eq_true rfl) (dq 46 rfl) (by decide) ?_
            obtain rfl := Option.some.inj h
            exact a_iret K rfl rfl (dq 47 rfl) (Nat.le_of_ble_eq_true rfl) (Nat.le_of_ble_eq_true rfl) rfl rfl
      · have h := ite_t c6 h
        refine a_aload_n K (dq 29 rfl) rfl rfl ?_
        refine a_bipush K (dq 30 rfl) (v := 10) rfl ?_
        refine a_iload_n K (dq 31 rfl) rfl rfl ?_
        obtain ⟨r26, h26, h⟩ := bnd h
        refine a_callVi K (s_X7_refuses S 10 a2  σ r26 h26) v_20 rfl rfl cw_X7_refuses ml_X7_96 (by decide) rfl (rest := []) rfl (Nat.le_of_ble_eq_true rfl) (dq 32 rfl) (by decide) ?_
        obtain rfl := Option.some.inj h
        exact a_iret K rfl rfl (dq 33 rfl) (Nat.le_of_ble_eq_true rfl) (Nat.le_of_ble_eq_true rfl) rfl rfl
    · have h := ite_t c4 h
      refine a_aload_n K (dq 14 rfl) rfl rfl ?_
      refine a_iconst K (dq 15 rfl) (v := 3) rfl ?_
      refine a_iload_n K (dq 16 rfl) rfl rfl ?_
      obtain ⟨r27, h27, h⟩ := bnd h
      refine a_callVi K (s_X7_refuses S 3 a2  σ r27 h27) v_20 rfl rfl cw_X7_refuses ml_X7_96 (by decide) rfl (rest := []) rfl (Nat.le_of_ble_eq_true rfl) (dq 17 rfl) (by decide) ?_
      obtain rfl := Option.some.inj h
      exact a_iret K rfl rfl (dq 18 rfl) (Nat.le_of_ble_eq_true rfl) (Nat.le_of_ble_eq_true rfl) rfl rfl
  · have h := ite_t c2 h
    refine a_aload_n K (dq 5 rfl) rfl rfl ?_
    refine a_iconst K (dq 6 rfl) (v := 1) rfl ?_
    refine a_iconst K (dq 7 rfl) (v := 0) rfl ?_
    obtain ⟨r28, h28, h⟩ := bnd h
    refine a_callVi K (s_X7_refuses S 1 0  σ r28 h28) v_20 rfl rfl cw_X7_refuses ml_X7_96 (by decide) rfl (rest := []) rfl (Nat.le_of_ble_eq_true rfl) (dq 8 rfl) (by decide) ?_
    obtain rfl := Option.some.inj h
    exact a_iret K rfl rfl (dq 9 rfl) (Nat.le_of_ble_eq_true rfl) (Nat.le_of_ble_eq_true rfl) rfl rfl
def t_X7_isNoWay : List (Nat × Instr × Nat) := [(0, .aload_n 0, 1), (1, .aload_n 0, 1), (2, .iload_n 1, 1), (3, .iload_n 2, 1), (4, .invokevirtual 107, 3), (7, .ifCond .ne 7, 3), (10, .iconst 1, 1), (11, .goto 17, 3), (14, .aload_n 0, 1), (15, .iload_n 1, 1), (16, .iload_n 2, 1), (17, .invokevirtual 76, 3), (20, .ifCond .eq 7, 3), (23, .iconst 0, 1), (24, .goto 4, 3), (27, .iconst 2, 1), (28, .invokevirtual 146, 3), (31, .ifCond .eq 5, 3), (34, .iconst 1, 1), (35, .ireturn, 1), (36, .aload_n 0, 1), (37, .iload_n 1, 1), (38, .iload_n 2, 1), (39, .invokevirtual 113, 3), (42, .iconst 0, 1), (43, .ireturn, 1)]
theorem dt_X7_isNoWay : tblOK cX7_isNoWay t_X7_isNoWay = true := by decide +kernel
def p_X7_isNoWay (a1 : Int32) (a2 : Int32) (σ : Sg) : Option (Int32 × Sg) :=
  (p_X7_areFarms a1 a2 σ).bind fun r1 => if r1 = 0 then ((p_X7_fails 1 σ).bind fun r11 => if r11.1 = 0 then ((p_X7_goes a1 a2 r11.2).bind fun r13 => some (0, r13)) else (some (1, r11.2))) else ((p_X7_areJoined a1 a2 σ).bind fun r3 => if r3 = 0 then ((p_X7_fails 2 σ).bind fun r5 => if r5.1 = 0 then ((p_X7_goes a1 a2 r5.2).bind fun r7 => some (0, r7)) else (some (1, r5.2))) else ((p_X7_fails 0 σ).bind fun r8 => if r8.1 = 0 then ((p_X7_goes a1 a2 r8.2).bind fun r10 => some (0, r10)) else (some (1, r8.2))))
set_option maxRecDepth 20000 in
set_option maxHeartbeats 1000000 in
theorem s_X7_isNoWay {l : Launch} {D : va_G} {ty : Nat → ClassId} {ρ : Nat → Nat → Nat} {N0 : Nat} (S : St l ty ρ N0) (a1 : Int32) (a2 : Int32)  (σ : Sg) (r : (Int32 × Sg)) (h : p_X7_isNoWay a1 a2 σ = some r) : AMet l D ty ρ N0 yX7_isNoWay (Cond.code yX7_isNoWay cX7_isNoWay 3 (some .boolean) :: GW) (rmk 5 0 0) [.ref (ρ 20 0), .int a1, .int a2] σ (oI r.1) r.2 := by
  refine am_enter S (by decide) rfl rfl (Nat.le_of_ble_eq_true rfl) ?_
  intro p e s m args below meth c K hX
  have dq := @tat _ _ dt_X7_isNoWay
  unfold p_X7_isNoWay at h
  show WA p l e _ s m args below meth c D ty ρ N0 3 _ 0 [some (.ref (ρ 20 0)), some (.int a1), some (.int a2)] [] σ 0 0
  refine a_aload_n K (dq 0 rfl) rfl rfl ?_
  refine a_aload_n K (dq 1 rfl) rfl rfl ?_
  refine a_iload_n K (dq 2 rfl) rfl rfl ?_
  refine a_iload_n K (dq 3 rfl) rfl rfl ?_
  obtain ⟨r1, h1, h⟩ := bnd h
  refine a_callVi K (s_X7_areFarms S a1 a2  σ r1 h1) v_20 rfl rfl cw_X7_areFarms ml_X7_107 (by decide) rfl (rest := [.ref (ρ 20 0)]) rfl (Nat.le_of_ble_eq_true rfl) (dq 4 rfl) (by decide) ?_
  refine a_if_ne K (tgt := 14) (dq 5 rfl) rfl (fun c2 => ?_) (fun c2 => ?_)
  · have h := ite_f c2 h
    refine a_aload_n K (dq 8 rfl) rfl rfl ?_
    refine a_iload_n K (dq 9 rfl) rfl rfl ?_
    refine a_iload_n K (dq 10 rfl) rfl rfl ?_
    obtain ⟨r3, h3, h⟩ := bnd h
    refine a_callVi K (s_X7_areJoined S a1 a2  σ r3 h3) v_20 rfl rfl cw_X7_areJoined ml_X7_76 (by decide) rfl (rest := [.ref (ρ 20 0)]) rfl (Nat.le_of_ble_eq_true rfl) (dq 11 rfl) (by decide) ?_
    refine a_if_eq K (tgt := 27) (dq 12 rfl) rfl (fun c4 => ?_) (fun c4 => ?_)
    · have h := ite_t c4 h
      refine a_iconst K (dq 15 rfl) (v := 2) rfl ?_
      obtain ⟨r5, h5, h⟩ := bnd h
      refine a_callVi K (s_X7_fails S 2  σ r5 h5) v_20 rfl rfl cw_X7_fails ml_X7_146 (by decide) rfl (rest := []) rfl (Nat.le_of_ble_eq_true rfl) (dq 16 rfl) (by decide) ?_
      refine a_if_eq K (tgt := 36) (dq 17 rfl) rfl (fun c6 => ?_) (fun c6 => ?_)
      · have h := ite_t c6 h
        refine a_aload_n K (dq 20 rfl) rfl rfl ?_
        refine a_iload_n K (dq 21 rfl) rfl rfl ?_
        refine a_iload_n K (dq 22 rfl) rfl rfl ?_
        obtain ⟨r7, h7, h⟩ := bnd h
        refine a_callVv K (s_X7_goes S a1 a2  r5.2 r7 h7) v_20 rfl rfl cw_X7_goes ml_X7_113 (by decide) rfl (rest := []) rfl (Nat.le_of_ble_eq_true rfl) (dq 23 rfl) (by decide) ?_
        refine a_iconst K (dq 24 rfl) (v := 0) rfl ?_
        obtain rfl := Option.some.inj h
        exact a_iret K rfl rfl (dq 25 rfl) (Nat.le_of_ble_eq_true rfl) (Nat.le_of_ble_eq_true rfl) rfl rfl
      · have h := ite_f c6 h
        refine a_iconst K (dq 18 rfl) (v := 1) rfl ?_
        obtain rfl := Option.some.inj h
        exact a_iret K rfl rfl (dq 19 rfl) (Nat.le_of_ble_eq_true rfl) (Nat.le_of_ble_eq_true rfl) rfl rfl
    · have h := ite_f c4 h
      refine a_iconst K (dq 13 rfl) (v := 0) rfl ?_
      refine a_goto K (tgt := 28) (dq 14 rfl) rfl ?_
      obtain ⟨r8, h8, h⟩ := bnd h
      refine a_callVi K (s_X7_fails S 0  σ r8 h8) v_20 rfl rfl cw_X7_fails ml_X7_146 (by decide) rfl (rest := []) rfl (Nat.le_of_ble_eq_true rfl) (dq 16 rfl) (by decide) ?_
      refine a_if_eq K (tgt := 36) (dq 17 rfl) rfl (fun c9 => ?_) (fun c9 => ?_)
      · have h := ite_t c9 h
        refine a_aload_n K (dq 20 rfl) rfl rfl ?_
        refine a_iload_n K (dq 21 rfl) rfl rfl ?_
        refine a_iload_n K (dq 22 rfl) rfl rfl ?_
        obtain ⟨r10, h10, h⟩ := bnd h
        refine a_callVv K (s_X7_goes S a1 a2  r8.2 r10 h10) v_20 rfl rfl cw_X7_goes ml_X7_113 (by decide) rfl (rest := []) rfl (Nat.le_of_ble_eq_true rfl) (dq 23 rfl) (by decide) ?_
        refine a_iconst K (dq 24 rfl) (v := 0) rfl ?_
        obtain rfl := Option.some.inj h
        exact a_iret K rfl rfl (dq 25 rfl) (Nat.le_of_ble_eq_true rfl) (Nat.le_of_ble_eq_true rfl) rfl rfl
      · have h := ite_f c9 h
        refine a_iconst K (dq 18 rfl) (v := 1) rfl ?_
        obtain rfl := Option.some.inj h
        exact a_iret K rfl rfl (dq 19 rfl) (Nat.le_of_ble_eq_true rfl) (Nat.le_of_ble_eq_true rfl) rfl rfl
  · have h := ite_t c2 h
    refine a_iconst K (dq 6 rfl) (v := 1) rfl ?_
    refine a_goto K (tgt := 28) (dq 7 rfl) rfl ?_
    obtain ⟨r11, h11, h⟩ := bnd h
    refine a_callVi K (s_X7_fails S 1  σ r11 h11) v_20 rfl rfl cw_X7_fails ml_X7_146 (by decide) rfl (rest := []) rfl (Nat.le_of_ble_eq_true rfl) (dq 16 rfl) (by decide) ?_
    refine a_if_eq K (tgt := 36) (dq 17 rfl) rfl (fun c12 => ?_) (fun c12 => ?_)
    · have h := ite_t c12 h
      refine a_aload_n K (dq 20 rfl) rfl rfl ?_
      refine a_iload_n K (dq 21 rfl) rfl rfl ?_
      refine a_iload_n K (dq 22 rfl) rfl rfl ?_
      obtain ⟨r13, h13, h⟩ := bnd h
      refine a_callVv K (s_X7_goes S a1 a2  r11.2 r13 h13) v_20 rfl rfl cw_X7_goes ml_X7_113 (by decide) rfl (rest := []) rfl (Nat.le_of_ble_eq_true rfl) (dq 23 rfl) (by decide) ?_
      refine a_iconst K (dq 24 rfl) (v := 0) rfl ?_
      obtain rfl := Option.some.inj h
      exact a_iret K rfl rfl (dq 25 rfl) (Nat.le_of_ble_eq_true rfl) (Nat.le_of_ble_eq_true rfl) rfl rfl
    · have h := ite_f c12 h
      refine a_iconst K (dq 18 rfl) (v := 1) rfl ?_
      obtain rfl := Option.some.inj h
      exact a_iret K rfl rfl (dq 19 rfl) (Nat.le_of_ble_eq_true rfl) (Nat.le_of_ble_eq_true rfl) rfl rfl
def t_X7_next : List (Nat × Instr × Nat) := [(0, .aload_n 0, 1), (1, .iload_n 1, 1), (2, .iload_n 2, 1), (3, .invokevirtual 155, 3), (6, .ifCond .eq 5, 3), (9, .iconst 0, 1), (10, .ireturn, 1), (11, .aload_n 0, 1), (12, .iload_n 1, 1), (13, .iload_n 2, 1), (14, .if_icmp .ne 7, 3), (17, .iconst 2, 1), (18, .goto 4, 3), (21, .iconst 0, 1), (22, .invokevirtual 146, 3), (25, .ifCond .eq 7, 3), (28, .iconst 0, 1), (29, .goto 9, 3), (32, .aload_n 0, 1), (33, .getfield 33, 3), (36, .iconst 1, 1), (37, .iaload, 1), (38, .ireturn, 1)]
theorem dt_X7_next : tblOK cX7_next t_X7_next = true := by decide +kernel
def p_X7_next (a1 : Int32) (a2 : Int32) (σ : Sg) : Option (Int32 × Sg) :=
  (p_X7_isNoWay a1 a2 σ).bind fun r1 => if r1.1 = 0 then (if a1 = a2 then ((p_X7_fails 2 r1.2).bind fun r6 => if r6.1 = 0 then (some ((gA r6.2 27 0 1), r6.2)) else (some (0, r6.2))) else ((p_X7_fails 0 r1.2).bind fun r4 => if r4.1 = 0 then (some ((gA r4.2 27 0 1), r4.2)) else (some (0, r4.2)))) else (some (0, r1.2))
set_option maxRecDepth 20000 in
set_option maxHeartbeats 1000000 in
theorem s_X7_next {l : Launch} {D : va_G} {ty : Nat → ClassId} {ρ : Nat → Nat → Nat} {N0 : Nat} (S : St l ty ρ N0) (a1 : Int32) (a2 : Int32)  (σ : Sg) (r : (Int32 × Sg)) (h : p_X7_next a1 a2 σ = some r) : AMet l D ty ρ N0 yX7_next (Cond.code yX7_next cX7_next 3 (some .int) :: GW) (rmk 6 0 0) [.ref (ρ 20 0), .int a1, .int a2] σ (oI r.1) r.2 := by
  refine am_enter S (by decide) rfl rfl (Nat.le_of_ble_eq_true rfl) ?_
  intro p e s m args below meth c K hX
  have dq := @tat _ _ dt_X7_next
  unfold p_X7_next at h
  show WA p l e _ s m args below meth c D ty ρ N0 3 _ 0 [some (.ref (ρ 20 0)), some (.int a1), some (.int a2)] [] σ 0 0
  refine a_aload_n K (dq 0 rfl) rfl rfl ?_
  refine a_iload_n K (dq 1 rfl) rfl rfl ?_
  refine a_iload_n K (dq 2 rfl) rfl rfl ?_
  obtain ⟨r1, h1, h⟩ := bnd h
  refine a_callVi K (s_X7_isNoWay S a1 a2  σ r1 h1) v_20 rfl rfl cw_X7_isNoWay ml_X7_155 (by decide) rfl (rest := []) rfl (Nat.le_of_ble_eq_true rfl) (dq 3 rfl) (by decide) ?_
  refine a_if_eq K (tgt := 11) (dq 4 rfl) rfl (fun c2 => ?_) (fun c2 => ?_)
  · have h := ite_t c2 h
    refine a_aload_n K (dq 7 rfl) rfl rfl ?_
    refine a_iload_n K (dq 8 rfl) rfl rfl ?_
    refine a_iload_n K (dq 9 rfl) rfl rfl ?_
    refine a_icmp_ne K (tgt := 21) (dq 10 rfl) rfl (fun c3 => ?_) (fun c3 => ?_)
    · have h := ite_f c3 h
      refine a_iconst K (dq 13 rfl) (v := 0) rfl ?_
      obtain ⟨r4, h4, h⟩ := bnd h
      refine a_callVi K (s_X7_fails S 0  r1.2 r4 h4) v_20 rfl rfl cw_X7_fails ml_X7_146 (by decide) rfl (rest := []) rfl (Nat.le_of_ble_eq_true rfl) (dq 14 rfl) (by decide) ?_
      refine a_if_eq K (tgt := 32) (dq 15 rfl) rfl (fun c5 => ?_) (fun c5 => ?_)
      · have h := ite_t c5 h
        refine a_aload_n K (dq 18 rfl) rfl rfl ?_
        refine a_get K (T := 20) (i := 0) (k := 17) (v := .ref (ρ 27 0)) v_20 rfl rfl in_X7 (Nat.le_of_ble_eq_true rfl) fl_X7_33 rfl (dq 19 rfl) ?_
        refine a_iconst K (dq 20 rfl) (v := 1) rfl ?_
        refine a_ialdK K (T := 27) (i := 0) (nj := 1) v_27 rfl rfl (ib_in rfl) rfl (dq 21 rfl) ?_
        obtain rfl := Option.some.inj h
        exact a_iret K rfl rfl (dq 22 rfl) (Nat.le_of_ble_eq_true rfl) (Nat.le_of_ble_eq_true rfl) rfl rfl
      · have h := ite_f c5 h
        refine a_iconst K (dq 16 rfl) (v := 0) rfl ?_
        refine a_goto K (tgt := 38) (dq 17 rfl) rfl ?_
        obtain rfl := Option.some.inj h
        exact a_iret K rfl rfl (dq 22 rfl) (Nat.le_of_ble_eq_true rfl) (Nat.le_of_ble_eq_true rfl) rfl rfl
    · have h := ite_t c3 h
      refine a_iconst K (dq 11 rfl) (v := 2) rfl ?_
      refine a_goto K (tgt := 22) (dq 12 rfl) rfl ?_
      obtain ⟨r6, h6, h⟩ := bnd h
      refine a_callVi K (s_X7_fails S 2  r1.2 r6 h6) v_20 rfl rfl cw_X7_fails ml_X7_146 (by decide) rfl (rest := []) rfl (Nat.le_of_ble_eq_true rfl) (dq 14 rfl) (by decide) ?_
      refine a_if_eq K (tgt := 32) (dq 15 rfl) rfl (fun c7 => ?_) (fun c7 => ?_)
      · have h := ite_t c7 h
        refine a_aload_n K (dq 18 rfl) rfl rfl ?_
        refine a_get K (T := 20) (i := 0) (k := 17) (v := .ref (ρ 27 0)) v_20 rfl rfl in_X7 (Nat.le_of_ble_eq_true rfl) fl_X7_33 rfl (dq 19 rfl) ?_
        refine a_iconst K (dq 20 rfl) (v := 1) rfl ?_
        refine a_ialdK K (T := 27) (i := 0) (nj := 1) v_27 rfl rfl (ib_in rfl) rfl (dq 21 rfl) ?_
        obtain rfl := Option.some.inj h
        exact a_iret K rfl rfl (dq 22 rfl) (Nat.le_of_ble_eq_true rfl) (Nat.le_of_ble_eq_true rfl) rfl rfl
      · have h := ite_f c7 h
        refine a_iconst K (dq 16 rfl) (v := 0) rfl ?_
        refine a_goto K (tgt := 38) (dq 17 rfl) rfl ?_
        obtain rfl := Option.some.inj h
        exact a_iret K rfl rfl (dq 22 rfl) (Nat.le_of_ble_eq_true rfl) (Nat.le_of_ble_eq_true rfl) rfl rfl
  · have h := ite_f c2 h
    refine a_iconst K (dq 5 rfl) (v := 0) rfl ?_
    obtain rfl := Option.some.inj h
    exact a_iret K rfl rfl (dq 6 rfl) (Nat.le_of_ble_eq_true rfl) (Nat.le_of_ble_eq_true rfl) rfl rfl
def t_X7_onWay : List (Nat × Instr × Nat) := [(0, .aload_n 0, 1), (1, .iload_n 1, 1), (2, .iload_n 2, 1), (3, .invokevirtual 155, 3), (6, .ifCond .eq 5, 3), (9, .iconst 0, 1), (10, .ireturn, 1), (11, .aload_n 0, 1), (12, .iload_n 3, 1), (13, .iconst 0, 1), (14, .aload_n 0, 1), (15, .getfield 87, 3), (18, .iconst 1, 1), (19, .isub, 1), (20, .invokestatic 65, 3), (23, .ifCond .eq 7, 3), (26, .iconst 0, 1), (27, .goto 4, 3), (30, .iconst 2, 1), (31, .invokevirtual 146, 3), (34, .ifCond .eq 7, 3), (37, .iconst 0, 1), (38, .goto 9, 3), (41, .aload_n 0, 1), (42, .getfield 33, 3), (45, .iload_n 3, 1), (46, .iaload, 1), (47, .ireturn, 1)]
theorem dt_X7_onWay : tblOK cX7_onWay t_X7_onWay = true := by decide +kernel
def p_X7_onWay (a1 : Int32) (a2 : Int32) (a3 : Int32) (σ : Sg) : Option (Int32 × Sg) :=
  (p_X7_isNoWay a1 a2 σ).bind fun r1 => if r1.1 = 0 then ((p_X7_in a3 0 ((gI r1.2 20 0 18) - 1) r1.2).bind fun r3 => if r3 = 0 then ((p_X7_fails 2 r1.2).bind fun r5 => if r5.1 = 0 then (if ib a3 12 then (some ((gA r5.2 27 0 a3.toNatClampNeg), r5.2)) else none) else (some (0, r5.2))) else ((p_X7_fails 0 r1.2).bind fun r8 => if r8.1 = 0 then (if ib a3 12 then (some ((gA r8.2 27 0 a3.toNatClampNeg), r8.2)) else none) else (some (0, r8.2)))) else (some (0, r1.2))
set_option maxRecDepth 20000 in
set_option maxHeartbeats 1000000 in
theorem s_X7_onWay {l : Launch} {D : va_G} {ty : Nat → ClassId} {ρ : Nat → Nat → Nat} {N0 : Nat} (S : St l ty ρ N0) (a1 : Int32) (a2 : Int32) (a3 : Int32)  (σ : Sg) (r : (Int32 × Sg)) (h : p_X7_onWay a1 a2 a3 σ = some r) : AMet l D ty ρ N0 yX7_onWay (Cond.code yX7_onWay cX7_onWay 4 (some .int) :: GW) (rmk 6 0 0) [.ref (ρ 20 0), .int a1, .int a2, .int a3] σ (oI r.1) r.2 := by
  refine am_enter S (by decide) rfl rfl (Nat.le_of_ble_eq_true rfl) ?_
  intro p e s m args below meth c K hX
  have dq := @tat _ _ dt_X7_onWay
  unfold p_X7_onWay at h
  show WA p l e _ s m args below meth c D ty ρ N0 4 _ 0 [some (.ref (ρ 20 0)), some (.int a1), some (.int a2), some (.int a3)] [] σ 0 0
  refine a_aload_n K (dq 0 rfl) rfl rfl ?_
  refine a_iload_n K (dq 1 rfl) rfl rfl ?_
  refine a_iload_n K (dq 2 rfl) rfl rfl ?_
  obtain ⟨r1, h1, h⟩ := bnd h
  refine a_callVi K (s_X7_isNoWay S a1 a2  σ r1 h1) v_20 rfl rfl cw_X7_isNoWay ml_X7_155 (by decide) rfl (rest := []) rfl (Nat.le_of_ble_eq_true rfl) (dq 3 rfl) (by decide) ?_
  refine a_if_eq K (tgt := 11) (dq 4 rfl) rfl (fun c2 => ?_) (fun c2 => ?_)
  · have h := ite_t c2 h
    refine a_aload_n K (dq 7 rfl) rfl rfl ?_
    refine a_iload_n K (dq 8 rfl) rfl rfl ?_
    refine a_iconst K (dq 9 rfl) (v := 0) rfl ?_
    refine a_aload_n K (dq 10 rfl) rfl rfl ?_
    refine a_get K (T := 20) (i := 0) (k := 18) (v := .int (gI r1.2 20 0 18)) v_20 rfl rfl in_X7 (Nat.le_of_ble_eq_true rfl) fl_X7_87 rfl (dq 11 rfl) ?_
    refine a_iconst K (dq 12 rfl) (v := 1) rfl ?_
    refine a_isub K (dq 13 rfl) ?_
    obtain ⟨r3, h3, h⟩ := bnd h
    refine a_callSi K (s_X7_in S a3 0 ((gI r1.2 20 0 18) - 1)  r1.2 r3 h3) cw_X7_in ml_X7_65 (by decide) rfl (rest := [.ref (ρ 20 0)]) rfl (Nat.le_of_ble_eq_true rfl) (dq 14 rfl) (by decide) ?_
    refine a_if_eq K (tgt := 30) (dq 15 rfl) rfl (fun c4 => ?_) (fun c4 => ?_)
    · have h := ite_t c4 h
      refine a_iconst K (dq 18 rfl) (v := 2) rfl ?_
      obtain ⟨r5, h5, h⟩ := bnd h
      refine a_callVi K (s_X7_fails S 2  r1.2 r5 h5) v_20 rfl rfl cw_X7_fails ml_X7_146 (by decide) rfl (rest := []) rfl (Nat.le_of_ble_eq_true rfl) (dq 19 rfl) (by decide) ?_
      refine a_if_eq K (tgt := 41) (dq 20 rfl) rfl (fun c6 => ?_) (fun c6 => ?_)
      · have h := ite_t c6 h
        refine a_aload_n K (dq 23 rfl) rfl rfl ?_
        refine a_get K (T := 20) (i := 0) (k := 17) (v := .ref (ρ 27 0)) v_20 rfl rfl in_X7 (Nat.le_of_ble_eq_true rfl) fl_X7_33 rfl (dq 24 rfl) ?_
        refine a_iload_n K (dq 25 rfl) rfl rfl ?_
        obtain ⟨c7, h⟩ := ib_some h
        refine a_iald K (T := 27) (i := 0) v_27 rfl rfl c7 (dq 26 rfl) ?_
        obtain rfl := Option.some.inj h
        exact a_iret K rfl rfl (dq 27 rfl) (Nat.le_of_ble_eq_true rfl) (Nat.le_of_ble_eq_true rfl) rfl rfl
      · have h := ite_f c6 h
        refine a_iconst K (dq 21 rfl) (v := 0) rfl ?_
        refine a_goto K (tgt := 47) (dq 22 rfl) rfl ?_
        obtain rfl := Option.some.inj h
        exact a_iret K rfl rfl (dq 27 rfl) (Nat.le_of_ble_eq_true rfl) (Nat.le_of_ble_eq_true rfl) rfl rfl
    · have h := ite_f c4 h
      refine a_iconst K (dq 16 rfl) (v := 0) rfl ?_
      refine a_goto K (tgt := 31) (dq 17 rfl) rfl ?_
      obtain ⟨r8, h8, h⟩ := bnd h
      refine a_callVi K (s_X7_fails S 0  r1.2 r8 h8) v_20 rfl rfl cw_X7_fails ml_X7_146 (by decide) rfl (rest := []) rfl (Nat.le_of_ble_eq_true rfl) (dq 19 rfl) (by decide) ?_
      refine a_if_eq K (tgt := 41) (dq 20 rfl) rfl (fun c9 => ?_) (fun c9 => ?_)
      · have h := ite_t c9 h
        refine a_aload_n K (dq 23 rfl) rfl rfl ?_
        refine a_get K (T := 20) (i := 0) (k := 17) (v := .ref (ρ 27 0)) v_20 rfl rfl in_X7 (Nat.le_of_ble_eq_true rfl) fl_X7_33 rfl (dq 24 rfl) ?_
        refine a_iload_n K (dq 25 rfl) rfl rfl ?_
        obtain ⟨c10, h⟩ := ib_some h
        refine a_iald K (T := 27) (i := 0) v_27 rfl rfl c10 (dq 26 rfl) ?_
        obtain rfl := Option.some.inj h
        exact a_iret K rfl rfl (dq 27 rfl) (Nat.le_of_ble_eq_true rfl) (Nat.le_of_ble_eq_true rfl) rfl rfl
      · have h := ite_f c9 h
        refine a_iconst K (dq 21 rfl) (v := 0) rfl ?_
        refine a_goto K (tgt := 47) (dq 22 rfl) rfl ?_
        obtain rfl := Option.some.inj h
        exact a_iret K rfl rfl (dq 27 rfl) (Nat.le_of_ble_eq_true rfl) (Nat.le_of_ble_eq_true rfl) rfl rfl
  · have h := ite_f c2 h
    refine a_iconst K (dq 5 rfl) (v := 0) rfl ?_
    obtain rfl := Option.some.inj h
    exact a_iret K rfl rfl (dq 6 rfl) (Nat.le_of_ble_eq_true rfl) (Nat.le_of_ble_eq_true rfl) rfl rfl
def t_X7_meet : List (Nat × Instr × Nat) := [(0, .aload_n 0, 1), (1, .iload_n 1, 1), (2, .iload_n 2, 1), (3, .invokevirtual 155, 3), (6, .ifCond .eq 7, 3), (9, .iconst 0, 1), (10, .goto 9, 3), (13, .aload_n 0, 1), (14, .iload_n 1, 1), (15, .iload_n 2, 1), (16, .invokevirtual 83, 3), (19, .ireturn, 1)]
theorem dt_X7_meet : tblOK cX7_meet t_X7_meet = true := by decide +kernel
def p_X7_meet (a1 : Int32) (a2 : Int32) (σ : Sg) : Option (Int32 × Sg) :=
  (p_X7_isNoWay a1 a2 σ).bind fun r1 => if r1.1 = 0 then ((p_X7_meetOf a1 a2 r1.2).bind fun r3 => some (r3, r1.2)) else (some (0, r1.2))
set_option maxRecDepth 20000 in
set_option maxHeartbeats 1000000 in
theorem s_X7_meet {l : Launch} {D : va_G} {ty : Nat → ClassId} {ρ : Nat → Nat → Nat} {N0 : Nat} (S : St l ty ρ N0) (a1 : Int32) (a2 : Int32)  (σ : Sg) (r : (Int32 × Sg)) (h : p_X7_meet a1 a2 σ = some r) : AMet l D ty ρ N0 yX7_meet (Cond.code yX7_meet cX7_meet 3 (some .int) :: GW) (rmk 6 0 0) [.ref (ρ 20 0), .int a1, .int a2] σ (oI r.1) r.2 := by
  refine am_enter S (by decide) rfl rfl (Nat.le_of_ble_eq_true rfl) ?_
  intro p e s m args below meth c K hX
  have dq := @tat _ _ dt_X7_meet
  unfold p_X7_meet at h
  show WA p l e _ s m args below meth c D ty ρ N0 3 _ 0 [some (.ref (ρ 20 0)), some (.int a1), some (.int a2)] [] σ 0 0
  refine a_aload_n K (dq 0 rfl) rfl rfl ?_
  refine a_iload_n K (dq 1 rfl) rfl rfl ?_
  refine a_iload_n K (dq 2 rfl) rfl rfl ?_
  obtain ⟨r1, h1, h⟩ := bnd h
  refine a_callVi K (s_X7_isNoWay S a1 a2  σ r1 h1) v_20 rfl rfl cw_X7_isNoWay ml_X7_155 (by decide) rfl (rest := []) rfl (Nat.le_of_ble_eq_true rfl) (dq 3 rfl) (by decide) ?_
  refine a_if_eq K (tgt := 13) (dq 4 rfl) rfl (fun c2 => ?_) (fun c2 => ?_)
  · have h := ite_t c2 h
    refine a_aload_n K (dq 7 rfl) rfl rfl ?_
    refine a_iload_n K (dq 8 rfl) rfl rfl ?_
    refine a_iload_n K (dq 9 rfl) rfl rfl ?_
    obtain ⟨r3, h3, h⟩ := bnd h
    refine a_callVi K (s_X7_meetOf S a1 a2  r1.2 r3 h3) v_20 rfl rfl cw_X7_meetOf ml_X7_83 (by decide) rfl (rest := []) rfl (Nat.le_of_ble_eq_true rfl) (dq 10 rfl) (by decide) ?_
    obtain rfl := Option.some.inj h
    exact a_iret K rfl rfl (dq 11 rfl) (Nat.le_of_ble_eq_true rfl) (Nat.le_of_ble_eq_true rfl) rfl rfl
  · have h := ite_f c2 h
    refine a_iconst K (dq 5 rfl) (v := 0) rfl ?_
    refine a_goto K (tgt := 19) (dq 6 rfl) rfl ?_
    obtain rfl := Option.some.inj h
    exact a_iret K rfl rfl (dq 11 rfl) (Nat.le_of_ble_eq_true rfl) (Nat.le_of_ble_eq_true rfl) rfl rfl
def t_X7_sum : List (Nat × Instr × Nat) := [(0, .aload_n 0, 1), (1, .iload_n 1, 1), (2, .iload_n 2, 1), (3, .invokevirtual 155, 3), (6, .ifCond .eq 7, 3), (9, .iconst 0, 1), (10, .goto 8, 3), (13, .aload_n 0, 1), (14, .iconst 0, 1), (15, .invokevirtual 143, 3), (18, .ireturn, 1)]
theorem dt_X7_sum : tblOK cX7_sum t_X7_sum = true := by decide +kernel
def p_X7_sum (a1 : Int32) (a2 : Int32) (σ : Sg) : Option (Int32 × Sg) :=
  (p_X7_isNoWay a1 a2 σ).bind fun r1 => if r1.1 = 0 then ((p_X7_pathToll 0 r1.2).bind fun r3 => some (r3, r1.2)) else (some (0, r1.2))
set_option maxRecDepth 20000 in
set_option maxHeartbeats 1000000 in
theorem s_X7_sum {l : Launch} {D : va_G} {ty : Nat → ClassId} {ρ : Nat → Nat → Nat} {N0 : Nat} (S : St l ty ρ N0) (a1 : Int32) (a2 : Int32)  (σ : Sg) (r : (Int32 × Sg)) (h : p_X7_sum a1 a2 σ = some r) : AMet l D ty ρ N0 yX7_sum (Cond.code yX7_sum cX7_sum 3 (some .int) :: GW) (rmk 6 0 0) [.ref (ρ 20 0), .int a1, .int a2] σ (oI r.1) r.2 := by
  refine am_enter S (by decide) rfl rfl (Nat.le_of_ble_eq_true rfl) ?_
  intro p e s m args below meth c K hX
  have dq := @tat _ _ dt_X7_sum
  unfold p_X7_sum at h
  show WA p l e _ s m args below meth c D ty ρ N0 3 _ 0 [some (.ref (ρ 20 0)), some (.int a1), some (.int a2)] [] σ 0 0
  refine a_aload_n K (dq 0 rfl) rfl rfl ?_
  refine a_iload_n K (dq 1 rfl) rfl rfl ?_
  refine a_iload_n K (dq 2 rfl) rfl rfl ?_
  obtain ⟨r1, h1, h⟩ := bnd h
  refine a_callVi K (s_X7_isNoWay S a1 a2  σ r1 h1) v_20 rfl rfl cw_X7_isNoWay ml_X7_155 (by decide) rfl (rest := []) rfl (Nat.le_of_ble_eq_true rfl) (dq 3 rfl) (by decide) ?_
  refine a_if_eq K (tgt := 13) (dq 4 rfl) rfl (fun c2 => ?_) (fun c2 => ?_)
  · have h := ite_t c2 h
    refine a_aload_n K (dq 7 rfl) rfl rfl ?_
    refine a_iconst K (dq 8 rfl) (v := 0) rfl ?_
    obtain ⟨r3, h3, h⟩ := bnd h
    refine a_callVi K (s_X7_pathToll S 0  r1.2 r3 h3) v_20 rfl rfl cw_X7_pathToll ml_X7_143 (by decide) rfl (rest := []) rfl (Nat.le_of_ble_eq_true rfl) (dq 9 rfl) (by decide) ?_
    obtain rfl := Option.some.inj h
    exact a_iret K rfl rfl (dq 10 rfl) (Nat.le_of_ble_eq_true rfl) (Nat.le_of_ble_eq_true rfl) rfl rfl
  · have h := ite_f c2 h
    refine a_iconst K (dq 5 rfl) (v := 0) rfl ?_
    refine a_goto K (tgt := 18) (dq 6 rfl) rfl ?_
    obtain rfl := Option.some.inj h
    exact a_iret K rfl rfl (dq 10 rfl) (Nat.le_of_ble_eq_true rfl) (Nat.le_of_ble_eq_true rfl) rfl rfl
def t_X7_sumAgain : List (Nat × Instr × Nat) := [(0, .aload_n 0, 1), (1, .iload_n 1, 1), (2, .iload_n 2, 1), (3, .invokevirtual 158, 3), (6, .ireturn, 1)]
theorem dt_X7_sumAgain : tblOK cX7_sumAgain t_X7_sumAgain = true := by decide +kernel
def p_X7_sumAgain (a1 : Int32) (a2 : Int32) (σ : Sg) : Option (Int32 × Sg) :=
  (p_X7_sum a1 a2 σ).bind fun r1 => some (r1.1, r1.2)
set_option maxRecDepth 20000 in
set_option maxHeartbeats 1000000 in
theorem s_X7_sumAgain {l : Launch} {D : va_G} {ty : Nat → ClassId} {ρ : Nat → Nat → Nat} {N0 : Nat} (S : St l ty ρ N0) (a1 : Int32) (a2 : Int32)  (σ : Sg) (r : (Int32 × Sg)) (h : p_X7_sumAgain a1 a2 σ = some r) : AMet l D ty ρ N0 yX7_sumAgain (Cond.code yX7_sumAgain cX7_sumAgain 3 (some .int) :: GW) (rmk 7 0 0) [.ref (ρ 20 0), .int a1, .int a2] σ (oI r.1) r.2 := by
  refine am_enter S (by decide) rfl rfl (Nat.le_of_ble_eq_true rfl) ?_
  intro p e s m args below meth c K hX
  have dq := @tat _ _ dt_X7_sumAgain
  unfold p_X7_sumAgain at h
  show WA p l e _ s m args below meth c D ty ρ N0 3 _ 0 [some (.ref (ρ 20 0)), some (.int a1), some (.int a2)] [] σ 0 0
  refine a_aload_n K (dq 0 rfl) rfl rfl ?_
  refine a_iload_n K (dq 1 rfl) rfl rfl ?_
  refine a_iload_n K (dq 2 rfl) rfl rfl ?_
  obtain ⟨r1, h1, h⟩ := bnd h
  refine a_callVi K (s_X7_sum S a1 a2  σ r1 h1) v_20 rfl rfl cw_X7_sum ml_X7_158 (by decide) rfl (rest := []) rfl (Nat.le_of_ble_eq_true rfl) (dq 3 rfl) (by decide) ?_
  obtain rfl := Option.some.inj h
  exact a_iret K rfl rfl (dq 4 rfl) (Nat.le_of_ble_eq_true rfl) (Nat.le_of_ble_eq_true rfl) rfl rfl
def t_X7_dearest : List (Nat × Instr × Nat) := [(0, .aload_n 0, 1), (1, .iload_n 1, 1), (2, .iload_n 2, 1), (3, .invokevirtual 155, 3), (6, .ifCond .eq 5, 3), (9, .iconst 0, 1), (10, .ireturn, 1), (11, .iconst 0, 1), (12, .istore_n 3, 1), (13, .iconst 1, 1), (14, .istore 4, 2), (16, .iload 4, 2), (18, .aload_n 0, 1), (19, .getfield 87, 3), (22, .if_icmp .ge 36, 3), (25, .aload_n 0, 1), (26, .aload_n 0, 1), (27, .getfield 33, 3), (30, .iload 4, 2), (32, .iaload, 1), (33, .invokevirtual 93, 3), (36, .aload_n 0, 1), (37, .aload_n 0, 1), (38, .getfield 33, 3), (41, .iload_n 3, 1), (42, .iaload, 1), (43, .invokevirtual 93, 3), (46, .if_icmp .le 6, 3), (49, .iload 4, 2), (51, .istore_n 3, 1), (52, .iinc 4 1, 3), (55, .goto (-39), 3), (58, .aload_n 0, 1), (59, .getfield 33, 3), (62, .iload_n 3, 1), (63, .iaload, 1), (64, .ireturn, 1)]
theorem dt_X7_dearest : tblOK cX7_dearest t_X7_dearest = true := by decide +kernel
def p_X7_dearest_L16  : Nat → Int32 → Int32 → Sg → Option ((Int32 × Sg))
  | 0, _, _, _ => none
  | n + 1, v3, v4, σ => if (gI σ 20 0 18) ≤ v4 then (if ib v3 12 then (some ((gA σ 27 0 v3.toNatClampNeg), σ)) else none) else (if ib v4 12 then ((p_X7_toll (gA σ 27 0 v4.toNatClampNeg) σ).bind fun r6 => if ib v3 12 then ((p_X7_toll (gA σ 27 0 v3.toNatClampNeg) σ).bind fun r8 => if r6 ≤ r8 then (p_X7_dearest_L16 n v3 (v4 + 1) σ) else (p_X7_dearest_L16 n v4 (v4 + 1) σ)) else none) else none)
def p_X7_dearest (a1 : Int32) (a2 : Int32) (σ : Sg) : Option (Int32 × Sg) :=
  (p_X7_isNoWay a1 a2 σ).bind fun r1 => if r1.1 = 0 then (p_X7_dearest_L16 400 0 1 r1.2) else (some (0, r1.2))
set_option maxRecDepth 20000 in
set_option maxHeartbeats 1000000 in
theorem s_X7_dearest_L16 {l : Launch} {D : va_G} {ty : Nat → ClassId} {ρ : Nat → Nat → Nat} {N0 : Nat} (S : St l ty ρ N0)   : ∀ (n : Nat) (v3 : Int32) (v4 : Int32) (σ : Sg) (r : (Int32 × Sg)) (h : p_X7_dearest_L16  n v3 v4 σ = some r) {p : Program} {e : Env} {s : State} {m : MethodId} {args : Array Value} {below : List Frame} {meth : Method} {c : Code} (K : Cx p l s m args meth c cX7_dearest 5 RX7 (some .int) D ty ρ N0) (hX : ∀ x ∈ c.exceptionTable.toList, False), WA p l e (rmk 6 0 0) s m args below meth c D ty ρ N0 5 (vx_MQ below (oQ D ty ρ N0 (oI r.1) r.2) (oX D ty ρ N0 (oI r.1) r.2) args s 0 0 (fun q => N0 ≤ q)) 16 [some (.ref (ρ 20 0)), none, none, some (.int v3), some (.int v4)] [] σ 0 0 := by
  intro n
  induction n with
  | zero =>
    intro v3 v4 σ r h
    simp only [p_X7_dearest_L16] at h
    cases h
  | succ n ih =>
    intro v3 v4 σ r h p e s m args below meth c K hX
    have dq := @tat _ _ dt_X7_dearest
    rw [p_X7_dearest_L16] at h
    refine a_iload K (dq 11 rfl) rfl ?_
    refine a_aload_n K (dq 12 rfl) rfl rfl ?_
    refine a_get K (T := 20) (i := 0) (k := 18) (v := .int (gI σ 20 0 18)) v_20 rfl rfl in_X7 (Nat.le_of_ble_eq_true rfl) fl_X7_87 rfl (dq 13 rfl) ?_
    refine a_icmp_ge K (tgt := 58) (dq 14 rfl) rfl (fun c3 => ?_) (fun c3 => ?_)
    · have h := ite_t c3 h
      refine a_aload_n K (dq 32 rfl) rfl rfl ?_
      refine a_get K (T := 20) (i := 0) (k := 17) (v := .ref (ρ 27 0)) v_20 rfl rfl in_X7 (Nat.le_of_ble_eq_true rfl) fl_X7_33 rfl (dq 33 rfl) ?_
      refine a_iload_n K (dq 34 rfl) rfl rfl ?_
      obtain ⟨c4, h⟩ := ib_some h
      refine a_iald K (T := 27) (i := 0) v_27 rfl rfl c4 (dq 35 rfl) ?_
      obtain rfl := Option.some.inj h
      exact a_iret K rfl rfl (dq 36 rfl) (Nat.le_of_ble_eq_true rfl) (Nat.le_of_ble_eq_true rfl) rfl rfl
    · have h := ite_f c3 h
      refine a_aload_n K (dq 15 rfl) rfl rfl ?_
      refine a_aload_n K (dq 16 rfl) rfl rfl ?_
      refine a_get K (T := 20) (i := 0) (k := 17) (v := .ref (ρ 27 0)) v_20 rfl rfl in_X7 (Nat.le_of_ble_eq_true rfl) fl_X7_33 rfl (dq 17 rfl) ?_
      refine a_iload K (dq 18 rfl) rfl ?_
      obtain ⟨c5, h⟩ := ib_some h
      refine a_iald K (T := 27) (i := 0) v_27 rfl rfl c5 (dq 19 rfl) ?_
      obtain ⟨r6, h6, h⟩ := bnd h
      refine a_callVi K (s_X7_toll S (gA σ 27 0 v4.toNatClampNeg)  σ r6 h6) v_20 rfl rfl cw_X7_toll ml_X7_93 (by decide) rfl (rest := []) rfl (Nat.le_of_ble_eq_true rfl) (dq 20 rfl) (by decide) ?_
      refine a_aload_n K (dq 21 rfl) rfl rfl ?_
      refine a_aload_n K (dq 22 rfl) rfl rfl ?_
      refine a_get K (T := 20) (i := 0) (k := 17) (v := .ref (ρ 27 0)) v_20 rfl rfl in_X7 (Nat.le_of_ble_eq_true rfl) fl_X7_33 rfl (dq 23 rfl) ?_
      refine a_iload_n K (dq 24 rfl) rfl rfl ?_
      obtain ⟨c7, h⟩ := ib_some h
      refine a_iald K (T := 27) (i := 0) v_27 rfl rfl c7 (dq 25 rfl) ?_
      obtain ⟨r8, h8, h⟩ := bnd h
      refine a_callVi K (s_X7_toll S (gA σ 27 0 v3.toNatClampNeg)  σ r8 h8) v_20 rfl rfl cw_X7_toll ml_X7_93 (by decide) rfl (rest := [.int r6]) rfl (Nat.le_of_ble_eq_true rfl) (dq 26 rfl) (by decide) ?_
      refine a_icmp_le K (tgt := 52) (dq 27 rfl) rfl (fun c9 => ?_) (fun c9 => ?_)
      · have h := ite_t c9 h
        refine a_iinc K (dq 30 rfl) rfl (v := (v4 + 1)) rfl (Nat.le_of_ble_eq_true rfl) (ls' := [some (.ref (ρ 20 0)), none, none, some (.int v3), some (.int (v4 + 1))]) rfl ?_
        refine a_goto K (tgt := 16) (dq 31 rfl) rfl ?_
        exact ih v3 (v4 + 1) σ r h K hX
      · have h := ite_f c9 h
        refine a_iload K (dq 28 rfl) rfl ?_
        refine a_istore_n K (dq 29 rfl) rfl (Nat.le_of_ble_eq_true rfl) (ls' := [some (.ref (ρ 20 0)), none, none, some (.int v4), some (.int v4)]) rfl ?_
        refine a_iinc K (dq 30 rfl) rfl (v := (v4 + 1)) rfl (Nat.le_of_ble_eq_true rfl) (ls' := [some (.ref (ρ 20 0)), none, none, some (.int v4), some (.int (v4 + 1))]) rfl ?_
        refine a_goto K (tgt := 16) (dq 31 rfl) rfl ?_
        exact ih v4 (v4 + 1) σ r h K hX
set_option maxRecDepth 20000 in
set_option maxHeartbeats 1000000 in
theorem s_X7_dearest {l : Launch} {D : va_G} {ty : Nat → ClassId} {ρ : Nat → Nat → Nat} {N0 : Nat} (S : St l ty ρ N0) (a1 : Int32) (a2 : Int32)  (σ : Sg) (r : (Int32 × Sg)) (h : p_X7_dearest a1 a2 σ = some r) : AMet l D ty ρ N0 yX7_dearest (Cond.code yX7_dearest cX7_dearest 5 (some .int) :: GW) (rmk 6 0 0) [.ref (ρ 20 0), .int a1, .int a2] σ (oI r.1) r.2 := by
  refine am_enter S (by decide) rfl rfl (Nat.le_of_ble_eq_true rfl) ?_
  intro p e s m args below meth c K hX
  have dq := @tat _ _ dt_X7_dearest
  unfold p_X7_dearest at h
  show WA p l e _ s m args below meth c D ty ρ N0 5 _ 0 [some (.ref (ρ 20 0)), some (.int a1), some (.int a2), none, none] [] σ 0 0
  refine a_aload_n K (dq 0 rfl) rfl rfl ?_
  refine a_iload_n K (dq 1 rfl) rfl rfl ?_
  refine a_iload_n K (dq 2 rfl) rfl rfl ?_
  obtain ⟨r1, h1, h⟩ := bnd h
  refine a_callVi K (s_X7_isNoWay S a1 a2  σ r1 h1) v_20 rfl rfl cw_X7_isNoWay ml_X7_155 (by decide) rfl (rest := []) rfl (Nat.le_of_ble_eq_true rfl) (dq 3 rfl) (by decide) ?_
  refine a_if_eq K (tgt := 11) (dq 4 rfl) rfl (fun c2 => ?_) (fun c2 => ?_)
  · have h := ite_t c2 h
    refine a_iconst K (dq 7 rfl) (v := 0) rfl ?_
    refine a_istore_n K (dq 8 rfl) rfl (Nat.le_of_ble_eq_true rfl) (ls' := [some (.ref (ρ 20 0)), some (.int a1), some (.int a2), some (.int 0), none]) rfl ?_
    refine a_iconst K (dq 9 rfl) (v := 1) rfl ?_
    refine a_istore K (dq 10 rfl) (Nat.le_of_ble_eq_true rfl) (ls' := [some (.ref (ρ 20 0)), some (.int a1), some (.int a2), some (.int 0), some (.int 1)]) rfl ?_
    refine a_le2 (ls' := [some (.ref (ρ 20 0)), none, none, some (.int 0), some (.int 1)]) ⟨rfl, rfl, rfl, trivial⟩ ?_
    exact s_X7_dearest_L16 S    400 0 1 r1.2 r h K hX
  · have h := ite_f c2 h
    refine a_iconst K (dq 5 rfl) (v := 0) rfl ?_
    obtain rfl := Option.some.inj h
    exact a_iret K rfl rfl (dq 6 rfl) (Nat.le_of_ble_eq_true rfl) (Nat.le_of_ble_eq_true rfl) rfl rfl
def t_X7_isJoined : List (Nat × Instr × Nat) := [(0, .aload_n 0, 1), (1, .aload_n 0, 1), (2, .iload_n 1, 1), (3, .iload_n 2, 1), (4, .invokevirtual 107, 3), (7, .ifCond .eq 7, 3), (10, .iconst 0, 1), (11, .goto 4, 3), (14, .iconst 1, 1), (15, .invokevirtual 146, 3), (18, .ifCond .ne 16, 3), (21, .aload_n 0, 1), (22, .iload_n 1, 1), (23, .iload_n 2, 1), (24, .invokevirtual 76, 3), (27, .ifCond .eq 7, 3), (30, .iconst 1, 1), (31, .goto 4, 3), (34, .iconst 0, 1), (35, .ireturn, 1)]
theorem dt_X7_isJoined : tblOK cX7_isJoined t_X7_isJoined = true := by decide +kernel
def p_X7_isJoined (a1 : Int32) (a2 : Int32) (σ : Sg) : Option (Int32 × Sg) :=
  (p_X7_areFarms a1 a2 σ).bind fun r1 => if r1 = 0 then ((p_X7_fails 1 σ).bind fun r3 => if r3.1 = 0 then ((p_X7_areJoined a1 a2 r3.2).bind fun r5 => if r5 = 0 then (some (0, r3.2)) else (some (1, r3.2))) else (some (0, r3.2))) else ((p_X7_fails 0 σ).bind fun r7 => if r7.1 = 0 then ((p_X7_areJoined a1 a2 r7.2).bind fun r9 => if r9 = 0 then (some (0, r7.2)) else (some (1, r7.2))) else (some (0, r7.2)))
set_option maxRecDepth 20000 in
set_option maxHeartbeats 1000000 in
theorem s_X7_isJoined {l : Launch} {D : va_G} {ty : Nat → ClassId} {ρ : Nat → Nat → Nat} {N0 : Nat} (S : St l ty ρ N0) (a1 : Int32) (a2 : Int32)  (σ : Sg) (r : (Int32 × Sg)) (h : p_X7_isJoined a1 a2 σ = some r) : AMet l D ty ρ N0 yX7_isJoined (Cond.code yX7_isJoined cX7_isJoined 3 (some .boolean) :: GW) (rmk 4 0 0) [.ref (ρ 20 0), .int a1, .int a2] σ (oI r.1) r.2 := by
  refine am_enter S (by decide) rfl rfl (Nat.le_of_ble_eq_true rfl) ?_
  intro p e s m args below meth c K hX
  have dq := @tat _ _ dt_X7_isJoined
  unfold p_X7_isJoined at h
  show WA p l e _ s m args below meth c D ty ρ N0 3 _ 0 [some (.ref (ρ 20 0)), some (.int a1), some (.int a2)] [] σ 0 0
  refine a_aload_n K (dq 0 rfl) rfl rfl ?_
  refine a_aload_n K (dq 1 rfl) rfl rfl ?_
  refine a_iload_n K (dq 2 rfl) rfl rfl ?_
  refine a_iload_n K (dq 3 rfl) rfl rfl ?_
  obtain ⟨r1, h1, h⟩ := bnd h
  refine a_callVi K (s_X7_areFarms S a1 a2  σ r1 h1) v_20 rfl rfl cw_X7_areFarms ml_X7_107 (by decide) rfl (rest := [.ref (ρ 20 0)]) rfl (Nat.le_of_ble_eq_true rfl) (dq 4 rfl) (by decide) ?_
  refine a_if_eq K (tgt := 14) (dq 5 rfl) rfl (fun c2 => ?_) (fun c2 => ?_)
  · have h := ite_t c2 h
    refine a_iconst K (dq 8 rfl) (v := 1) rfl ?_
    obtain ⟨r3, h3, h⟩ := bnd h
    refine a_callVi K (s_X7_fails S 1  σ r3 h3) v_20 rfl rfl cw_X7_fails ml_X7_146 (by decide) rfl (rest := []) rfl (Nat.le_of_ble_eq_true rfl) (dq 9 rfl) (by decide) ?_
    refine a_if_ne K (tgt := 34) (dq 10 rfl) rfl (fun c4 => ?_) (fun c4 => ?_)
    · have h := ite_f c4 h
      refine a_iconst K (dq 18 rfl) (v := 0) rfl ?_
      obtain rfl := Option.some.inj h
      exact a_iret K rfl rfl (dq 19 rfl) (Nat.le_of_ble_eq_true rfl) (Nat.le_of_ble_eq_true rfl) rfl rfl
    · have h := ite_t c4 h
      refine a_aload_n K (dq 11 rfl) rfl rfl ?_
      refine a_iload_n K (dq 12 rfl) rfl rfl ?_
      refine a_iload_n K (dq 13 rfl) rfl rfl ?_
      obtain ⟨r5, h5, h⟩ := bnd h
      refine a_callVi K (s_X7_areJoined S a1 a2  r3.2 r5 h5) v_20 rfl rfl cw_X7_areJoined ml_X7_76 (by decide) rfl (rest := []) rfl (Nat.le_of_ble_eq_true rfl) (dq 14 rfl) (by decide) ?_
      refine a_if_eq K (tgt := 34) (dq 15 rfl) rfl (fun c6 => ?_) (fun c6 => ?_)
      · have h := ite_t c6 h
        refine a_iconst K (dq 18 rfl) (v := 0) rfl ?_
        obtain rfl := Option.some.inj h
        exact a_iret K rfl rfl (dq 19 rfl) (Nat.le_of_ble_eq_true rfl) (Nat.le_of_ble_eq_true rfl) rfl rfl
      · have h := ite_f c6 h
        refine a_iconst K (dq 16 rfl) (v := 1) rfl ?_
        refine a_goto K (tgt := 35) (dq 17 rfl) rfl ?_
        obtain rfl := Option.some.inj h
        exact a_iret K rfl rfl (dq 19 rfl) (Nat.le_of_ble_eq_true rfl) (Nat.le_of_ble_eq_true rfl) rfl rfl
  · have h := ite_f c2 h
    refine a_iconst K (dq 6 rfl) (v := 0) rfl ?_
    refine a_goto K (tgt := 15) (dq 7 rfl) rfl ?_
    obtain ⟨r7, h7, h⟩ := bnd h
    refine a_callVi K (s_X7_fails S 0  σ r7 h7) v_20 rfl rfl cw_X7_fails ml_X7_146 (by decide) rfl (rest := []) rfl (Nat.le_of_ble_eq_true rfl) (dq 9 rfl) (by decide) ?_
    refine a_if_ne K (tgt := 34) (dq 10 rfl) rfl (fun c8 => ?_) (fun c8 => ?_)
    · have h := ite_f c8 h
      refine a_iconst K (dq 18 rfl) (v := 0) rfl ?_
      obtain rfl := Option.some.inj h
      exact a_iret K rfl rfl (dq 19 rfl) (Nat.le_of_ble_eq_true rfl) (Nat.le_of_ble_eq_true rfl) rfl rfl
    · have h := ite_t c8 h
      refine a_aload_n K (dq 11 rfl) rfl rfl ?_
      refine a_iload_n K (dq 12 rfl) rfl rfl ?_
      refine a_iload_n K (dq 13 rfl) rfl rfl ?_
      obtain ⟨r9, h9, h⟩ := bnd h
      refine a_callVi K (s_X7_areJoined S a1 a2  r7.2 r9 h9) v_20 rfl rfl cw_X7_areJoined ml_X7_76 (by decide) rfl (rest := []) rfl (Nat.le_of_ble_eq_true rfl) (dq 14 rfl) (by decide) ?_
      refine a_if_eq K (tgt := 34) (dq 15 rfl) rfl (fun c10 => ?_) (fun c10 => ?_)
      · have h := ite_t c10 h
        refine a_iconst K (dq 18 rfl) (v := 0) rfl ?_
        obtain rfl := Option.some.inj h
        exact a_iret K rfl rfl (dq 19 rfl) (Nat.le_of_ble_eq_true rfl) (Nat.le_of_ble_eq_true rfl) rfl rfl
      · have h := ite_f c10 h
        refine a_iconst K (dq 16 rfl) (v := 1) rfl ?_
        refine a_goto K (tgt := 35) (dq 17 rfl) rfl ?_
        obtain rfl := Option.some.inj h
        exact a_iret K rfl rfl (dq 19 rfl) (Nat.le_of_ble_eq_true rfl) (Nat.le_of_ble_eq_true rfl) rfl rfl
def t_X7_size : List (Nat × Instr × Nat) := [(0, .aload_n 0, 1), (1, .aload_n 0, 1), (2, .iload_n 1, 1), (3, .invokevirtual 103, 3), (6, .ifCond .eq 7, 3), (9, .iconst 0, 1), (10, .goto 4, 3), (13, .iconst 1, 1), (14, .invokevirtual 146, 3), (17, .ifCond .eq 7, 3), (20, .iconst 0, 1), (21, .goto 8, 3), (24, .aload_n 0, 1), (25, .iload_n 1, 1), (26, .invokevirtual 121, 3), (29, .ireturn, 1)]
theorem dt_X7_size : tblOK cX7_size t_X7_size = true := by decide +kernel
def p_X7_size (a1 : Int32) (σ : Sg) : Option (Int32 × Sg) :=
  (p_X7_isFarm a1 σ).bind fun r1 => if r1 = 0 then ((p_X7_fails 1 σ).bind fun r3 => if r3.1 = 0 then ((p_X7_sizeOf a1 r3.2).bind fun r5 => some (r5, r3.2)) else (some (0, r3.2))) else ((p_X7_fails 0 σ).bind fun r6 => if r6.1 = 0 then ((p_X7_sizeOf a1 r6.2).bind fun r8 => some (r8, r6.2)) else (some (0, r6.2)))
set_option maxRecDepth 20000 in
set_option maxHeartbeats 1000000 in
theorem s_X7_size {l : Launch} {D : va_G} {ty : Nat → ClassId} {ρ : Nat → Nat → Nat} {N0 : Nat} (S : St l ty ρ N0) (a1 : Int32)  (σ : Sg) (r : (Int32 × Sg)) (h : p_X7_size a1 σ = some r) : AMet l D ty ρ N0 yX7_size (Cond.code yX7_size cX7_size 2 (some .int) :: GW) (rmk 5 0 0) [.ref (ρ 20 0), .int a1] σ (oI r.1) r.2 := by
  refine am_enter S (by decide) rfl rfl (Nat.le_of_ble_eq_true rfl) ?_
  intro p e s m args below meth c K hX
  have dq := @tat _ _ dt_X7_size
  unfold p_X7_size at h
  show WA p l e _ s m args below meth c D ty ρ N0 2 _ 0 [some (.ref (ρ 20 0)), some (.int a1)] [] σ 0 0
  refine a_aload_n K (dq 0 rfl) rfl rfl ?_
  refine a_aload_n K (dq 1 rfl) rfl rfl ?_
  refine a_iload_n K (dq 2 rfl) rfl rfl ?_
  obtain ⟨r1, h1, h⟩ := bnd h
  refine a_callVi K (s_X7_isFarm S a1  σ r1 h1) v_20 rfl rfl cw_X7_isFarm ml_X7_103 (by decide) rfl (rest := [.ref (ρ 20 0)]) rfl (Nat.le_of_ble_eq_true rfl) (dq 3 rfl) (by decide) ?_
  refine a_if_eq K (tgt := 13) (dq 4 rfl) rfl (fun c2 => ?_) (fun c2 => ?_)
  · have h := ite_t c2 h
    refine a_iconst K (dq 7 rfl) (v := 1) rfl ?_
    obtain ⟨r3, h3, h⟩ := bnd h
    refine a_callVi K (s_X7_fails S 1  σ r3 h3) v_20 rfl rfl cw_X7_fails ml_X7_146 (by decide) rfl (rest := []) rfl (Nat.le_of_ble_eq_true rfl) (dq 8 rfl) (by decide) ?_
    refine a_if_eq K (tgt := 24) (dq 9 rfl) rfl (fun c4 => ?_) (fun c4 => ?_)
    · have h := ite_t c4 h
      refine a_aload_n K (dq 12 rfl) rfl rfl ?_
      refine a_iload_n K (dq 13 rfl) rfl rfl ?_
      obtain ⟨r5, h5, h⟩ := bnd h
      refine a_callVi K (s_X7_sizeOf S a1  r3.2 r5 h5) v_20 rfl rfl cw_X7_sizeOf ml_X7_121 (by decide) rfl (rest := []) rfl (Nat.le_of_ble_eq_true rfl) (dq 14 rfl) (by decide) ?_
      obtain rfl := Option.some.inj h
      exact a_iret K rfl rfl (dq 15 rfl) (Nat.le_of_ble_eq_true rfl) (Nat.le_of_ble_eq_true rfl) rfl rfl
    · have h := ite_f c4 h
      refine a_iconst K (dq 10 rfl) (v := 0) rfl ?_
      refine a_goto K (tgt := 29) (dq 11 rfl) rfl ?_
      obtain rfl := Option.some.inj h
      exact a_iret K rfl rfl (dq 15 rfl) (Nat.le_of_ble_eq_true rfl) (Nat.le_of_ble_eq_true rfl) rfl rfl
  · have h := ite_f c2 h
    refine a_iconst K (dq 5 rfl) (v := 0) rfl ?_
    refine a_goto K (tgt := 14) (dq 6 rfl) rfl ?_
    obtain ⟨r6, h6, h⟩ := bnd h
    refine a_callVi K (s_X7_fails S 0  σ r6 h6) v_20 rfl rfl cw_X7_fails ml_X7_146 (by decide) rfl (rest := []) rfl (Nat.le_of_ble_eq_true rfl) (dq 8 rfl) (by decide) ?_
    refine a_if_eq K (tgt := 24) (dq 9 rfl) rfl (fun c7 => ?_) (fun c7 => ?_)
    · have h := ite_t c7 h
      refine a_aload_n K (dq 12 rfl) rfl rfl ?_
      refine a_iload_n K (dq 13 rfl) rfl rfl ?_
      obtain ⟨r8, h8, h⟩ := bnd h
      refine a_callVi K (s_X7_sizeOf S a1  r6.2 r8 h8) v_20 rfl rfl cw_X7_sizeOf ml_X7_121 (by decide) rfl (rest := []) rfl (Nat.le_of_ble_eq_true rfl) (dq 14 rfl) (by decide) ?_
      obtain rfl := Option.some.inj h
      exact a_iret K rfl rfl (dq 15 rfl) (Nat.le_of_ble_eq_true rfl) (Nat.le_of_ble_eq_true rfl) rfl rfl
    · have h := ite_f c7 h
      refine a_iconst K (dq 10 rfl) (v := 0) rfl ?_
      refine a_goto K (tgt := 29) (dq 11 rfl) rfl ?_
      obtain rfl := Option.some.inj h
      exact a_iret K rfl rfl (dq 15 rfl) (Nat.le_of_ble_eq_true rfl) (Nat.le_of_ble_eq_true rfl) rfl rfl
def t_X7_tracks : List (Nat × Instr × Nat) := [(0, .aload_n 0, 1), (1, .iload_n 1, 1), (2, .iload_n 2, 1), (3, .invokevirtual 113, 3), (6, .aload_n 0, 1), (7, .getfield 87, 3), (10, .iconst 1, 1), (11, .isub, 1), (12, .ireturn, 1)]
theorem dt_X7_tracks : tblOK cX7_tracks t_X7_tracks = true := by decide +kernel
def p_X7_tracks (a1 : Int32) (a2 : Int32) (σ : Sg) : Option (Int32 × Sg) :=
  (p_X7_goes a1 a2 σ).bind fun r1 => some (((gI r1 20 0 18) - 1), r1)
set_option maxRecDepth 20000 in
set_option maxHeartbeats 1000000 in
theorem s_X7_tracks {l : Launch} {D : va_G} {ty : Nat → ClassId} {ρ : Nat → Nat → Nat} {N0 : Nat} (S : St l ty ρ N0) (a1 : Int32) (a2 : Int32)  (σ : Sg) (r : (Int32 × Sg)) (h : p_X7_tracks a1 a2 σ = some r) : AMet l D ty ρ N0 yX7_tracks (Cond.code yX7_tracks cX7_tracks 3 (some .int) :: GW) (rmk 5 0 0) [.ref (ρ 20 0), .int a1, .int a2] σ (oI r.1) r.2 := by
  refine am_enter S (by decide) rfl rfl (Nat.le_of_ble_eq_true rfl) ?_
  intro p e s m args below meth c K hX
  have dq := @tat _ _ dt_X7_tracks
  unfold p_X7_tracks at h
  show WA p l e _ s m args below meth c D ty ρ N0 3 _ 0 [some (.ref (ρ 20 0)), some (.int a1), some (.int a2)] [] σ 0 0
  refine a_aload_n K (dq 0 rfl) rfl rfl ?_
  refine a_iload_n K (dq 1 rfl) rfl rfl ?_
  refine a_iload_n K (dq 2 rfl) rfl rfl ?_
  obtain ⟨r1, h1, h⟩ := bnd h
  refine a_callVv K (s_X7_goes S a1 a2  σ r1 h1) v_20 rfl rfl cw_X7_goes ml_X7_113 (by decide) rfl (rest := []) rfl (Nat.le_of_ble_eq_true rfl) (dq 3 rfl) (by decide) ?_
  refine a_aload_n K (dq 4 rfl) rfl rfl ?_
  refine a_get K (T := 20) (i := 0) (k := 18) (v := .int (gI r1 20 0 18)) v_20 rfl rfl in_X7 (Nat.le_of_ble_eq_true rfl) fl_X7_87 rfl (dq 5 rfl) ?_
  refine a_iconst K (dq 6 rfl) (v := 1) rfl ?_
  refine a_isub K (dq 7 rfl) ?_
  obtain rfl := Option.some.inj h
  exact a_iret K rfl rfl (dq 8 rfl) (Nat.le_of_ble_eq_true rfl) (Nat.le_of_ble_eq_true rfl) rfl rfl
def t_X7_wouldSplit : List (Nat × Instr × Nat) := [(0, .aload_n 0, 1), (1, .aload_n 0, 1), (2, .iload_n 1, 1), (3, .iload_n 2, 1), (4, .invokevirtual 107, 3), (7, .ifCond .ne 7, 3), (10, .iconst 1, 1), (11, .goto 17, 3), (14, .aload_n 0, 1), (15, .iload_n 1, 1), (16, .iload_n 2, 1), (17, .invokevirtual 124, 3), (20, .ifCond .eq 7, 3), (23, .iconst 0, 1), (24, .goto 4, 3), (27, .iconst 2, 1), (28, .invokevirtual 146, 3), (31, .ifCond .eq 5, 3), (34, .iconst 0, 1), (35, .ireturn, 1), (36, .aload_n 0, 1), (37, .aload_n 0, 1), (38, .iload_n 1, 1), (39, .iload_n 2, 1), (40, .invokevirtual 127, 3), (43, .invokevirtual 152, 3), (46, .istore_n 3, 1), (47, .iload_n 3, 1), (48, .aload_n 0, 1), (49, .iload_n 1, 1), (50, .invokevirtual 121, 3), (53, .iload_n 3, 1), (54, .isub, 1), (55, .imul, 1), (56, .ireturn, 1)]
theorem dt_X7_wouldSplit : tblOK cX7_wouldSplit t_X7_wouldSplit = true := by decide +kernel
def p_X7_wouldSplit (a1 : Int32) (a2 : Int32) (σ : Sg) : Option (Int32 × Sg) :=
  (p_X7_areFarms a1 a2 σ).bind fun r1 => if r1 = 0 then ((p_X7_fails 1 σ).bind fun r15 => if r15.1 = 0 then ((p_X7_childOf a1 a2 r15.2).bind fun r17 => (p_X7_behind r17 r15.2).bind fun r18 => (p_X7_sizeOf a1 r15.2).bind fun r19 => some ((r18 * (r19 - r18)), r15.2)) else (some (0, r15.2))) else ((p_X7_isLaid a1 a2 σ).bind fun r3 => if r3 = 0 then ((p_X7_fails 2 σ).bind fun r5 => if r5.1 = 0 then ((p_X7_childOf a1 a2 r5.2).bind fun r7 => (p_X7_behind r7 r5.2).bind fun r8 => (p_X7_sizeOf a1 r5.2).bind fun r9 => some ((r8 * (r9 - r8)), r5.2)) else (some (0, r5.2))) else ((p_X7_fails 0 σ).bind fun r10 => if r10.1 = 0 then ((p_X7_childOf a1 a2 r10.2).bind fun r12 => (p_X7_behind r12 r10.2).bind fun r13 => (p_X7_sizeOf a1 r10.2).bind fun r14 => some ((r13 * (r14 - r13)), r10.2)) else (some (0, r10.2))))
set_option maxRecDepth 20000 in
set_option maxHeartbeats 1000000 in
theorem s_X7_wouldSplit {l : Launch} {D : va_G} {ty : Nat → ClassId} {ρ : Nat → Nat → Nat} {N0 : Nat} (S : St l ty ρ N0) (a1 : Int32) (a2 : Int32)  (σ : Sg) (r : (Int32 × Sg)) (h : p_X7_wouldSplit a1 a2 σ = some r) : AMet l D ty ρ N0 yX7_wouldSplit (Cond.code yX7_wouldSplit cX7_wouldSplit 4 (some .int) :: GW) (rmk 5 0 0) [.ref (ρ 20 0), .int a1, .int a2] σ (oI r.1) r.2 := by
  refine am_enter S (by decide) rfl rfl (Nat.le_of_ble_eq_true rfl) ?_
  intro p e s m args below meth c K hX
  have dq := @tat _ _ dt_X7_wouldSplit
  unfold p_X7_wouldSplit at h
  show WA p l e _ s m args below meth c D ty ρ N0 4 _ 0 [some (.ref (ρ 20 0)), some (.int a1), some (.int a2), none] [] σ 0 0
  refine a_aload_n K (dq 0 rfl) rfl rfl ?_
  refine a_aload_n K (dq 1 rfl) rfl rfl ?_
  refine a_iload_n K (dq 2 rfl) rfl rfl ?_
  refine a_iload_n K (dq 3 rfl) rfl rfl ?_
  obtain ⟨r1, h1, h⟩ := bnd h
  refine a_callVi K (s_X7_areFarms S a1 a2  σ r1 h1) v_20 rfl rfl cw_X7_areFarms ml_X7_107 (by decide) rfl (rest := [.ref (ρ 20 0)]) rfl (Nat.le_of_ble_eq_true rfl) (dq 4 rfl) (by decide) ?_
  refine a_if_ne K (tgt := 14) (dq 5 rfl) rfl (fun c2 => ?_) (fun c2 => ?_)
  · have h := ite_f c2 h
    refine a_aload_n K (dq 8 rfl) rfl rfl ?_
    refine a_iload_n K (dq 9 rfl) rfl rfl ?_
    refine a_iload_n K (dq 10 rfl) rfl rfl ?_
    obtain ⟨r3, h3, h⟩ := bnd h
    refine a_callVi K (s_X7_isLaid S a1 a2  σ r3 h3) v_20 rfl rfl cw_X7_isLaid ml_X7_124 (by decide) rfl (rest := [.ref (ρ 20 0)]) rfl (Nat.le_of_ble_eq_true rfl) (dq 11 rfl) (by decide) ?_
    refine a_if_eq K (tgt := 27) (dq 12 rfl) rfl (fun c4 => ?_) (fun c4 => ?_)
    · have h := ite_t c4 h
      refine a_iconst K (dq 15 rfl) (v := 2) rfl ?_
      obtain ⟨r5, h5, h⟩ := bnd h
      refine a_callVi K (s_X7_fails S 2  σ r5 h5) v_20 rfl rfl cw_X7_fails ml_X7_146 (by decide) rfl (rest := []) rfl (Nat.le_of_ble_eq_true rfl) (dq 16 rfl) (by decide) ?_
      refine a_if_eq K (tgt := 36) (dq 17 rfl) rfl (fun c6 => ?_) (fun c6 => ?_)
      · have h := ite_t c6 h
        refine a_aload_n K (dq 20 rfl) rfl rfl ?_
        refine a_aload_n K (dq 21 rfl) rfl rfl ?_
        refine a_iload_n K (dq 22 rfl) rfl rfl ?_
        refine a_iload_n K (dq 23 rfl) rfl rfl ?_
        obtain ⟨r7, h7, h⟩ := bnd h
        refine a_callVi K (s_X7_childOf S a1 a2  r5.2 r7 h7) v_20 rfl rfl cw_X7_childOf ml_X7_127 (by decide) rfl (rest := [.ref (ρ 20 0)]) rfl (Nat.le_of_ble_eq_true rfl) (dq 24 rfl) (by decide) ?_
        obtain ⟨r8, h8, h⟩ := bnd h
        refine a_callVi K (s_X7_behind S r7  r5.2 r8 h8) v_20 rfl rfl cw_X7_behind ml_X7_152 (by decide) rfl (rest := []) rfl (Nat.le_of_ble_eq_true rfl) (dq 25 rfl) (by decide) ?_
        refine a_istore_n K (dq 26 rfl) rfl (Nat.le_of_ble_eq_true rfl) (ls' := [some (.ref (ρ 20 0)), some (.int a1), some (.int a2), some (.int r8)]) rfl ?_
        refine a_iload_n K (dq 27 rfl) rfl rfl ?_
        refine a_aload_n K (dq 28 rfl) rfl rfl ?_
        refine a_iload_n K (dq 29 rfl) rfl rfl ?_
        obtain ⟨r9, h9, h⟩ := bnd h
        refine a_callVi K (s_X7_sizeOf S a1  r5.2 r9 h9) v_20 rfl rfl cw_X7_sizeOf ml_X7_121 (by decide) rfl (rest := [.int r8]) rfl (Nat.le_of_ble_eq_true rfl) (dq 30 rfl) (by decide) ?_
        refine a_iload_n K (dq 31 rfl) rfl rfl ?_
        refine a_isub K (dq 32 rfl) ?_
        refine a_imul K (dq 33 rfl) ?_
        obtain rfl := Option.some.inj h
        exact a_iret K rfl rfl (dq 34 rfl) (Nat.le_of_ble_eq_true rfl) (Nat.le_of_ble_eq_true rfl) rfl rfl
      · have h := ite_f c6 h
        refine a_iconst K (dq 18 rfl) (v := 0) rfl ?_
        obtain rfl := Option.some.inj h
        exact a_iret K rfl rfl (dq 19 rfl) (Nat.le_of_ble_eq_true rfl) (Nat.le_of_ble_eq_true rfl) rfl rfl
    · have h := ite_f c4 h
      refine a_iconst K (dq 13 rfl) (v := 0) rfl ?_
      refine a_goto K (tgt := 28) (dq 14 rfl) rfl ?_
      obtain ⟨r10, h10, h⟩ := bnd h
      refine a_callVi K (s_X7_fails S 0  σ r10 h10) v_20 rfl rfl cw_X7_fails ml_X7_146 (by decide) rfl (rest := []) rfl (Nat.le_of_ble_eq_true rfl) (dq 16 rfl) (by decide) ?_
      refine a_if_eq K (tgt := 36) (dq 17 rfl) rfl (fun c11 => ?_) (fun c11 => ?_)
      · have h := ite_t c11 h
        refine a_aload_n K (dq 20 rfl) rfl rfl ?_
        refine a_aload_n K (dq 21 rfl) rfl rfl ?_
        refine a_iload_n K (dq 22 rfl) rfl rfl ?_
        refine a_iload_n K (dq 23 rfl) rfl rfl ?_
        obtain ⟨r12, h12, h⟩ := bnd h
        refine a_callVi K (s_X7_childOf S a1 a2  r10.2 r12 h12) v_20 rfl rfl cw_X7_childOf ml_X7_127 (by decide) rfl (rest := [.ref (ρ 20 0)]) rfl (Nat.le_of_ble_eq_true rfl) (dq 24 rfl) (by decide) ?_
        obtain ⟨r13, h13, h⟩ := bnd h
        refine a_callVi K (s_X7_behind S r12  r10.2 r13 h13) v_20 rfl rfl cw_X7_behind ml_X7_152 (by decide) rfl (rest := []) rfl (Nat.le_of_ble_eq_true rfl) (dq 25 rfl) (by decide) ?_
        refine a_istore_n K (dq 26 rfl) rfl (Nat.le_of_ble_eq_true rfl) (ls' := [some (.ref (ρ 20 0)), some (.int a1), some (.int a2), some (.int r13)]) rfl ?_
        refine a_iload_n K (dq 27 rfl) rfl rfl ?_
        refine a_aload_n K (dq 28 rfl) rfl rfl ?_
        refine a_iload_n K (dq 29 rfl) rfl rfl ?_
        obtain ⟨r14, h14, h⟩ := bnd h
        refine a_callVi K (s_X7_sizeOf S a1  r10.2 r14 h14) v_20 rfl rfl cw_X7_sizeOf ml_X7_121 (by decide) rfl (rest := [.int r13]) rfl (Nat.le_of_ble_eq_true rfl) (dq 30 rfl) (by decide) ?_
        refine a_iload_n K (dq 31 rfl) rfl rfl ?_
        refine a_isub K (dq 32 rfl) ?_
        refine a_imul K (dq 33 rfl) ?_
        obtain rfl := Option.some.inj h
        exact a_iret K rfl rfl (dq 34 rfl) (Nat.le_of_ble_eq_true rfl) (Nat.le_of_ble_eq_true rfl) rfl rfl
      · have h := ite_f c11 h
        refine a_iconst K (dq 18 rfl) (v := 0) rfl ?_
        obtain rfl := Option.some.inj h
        exact a_iret K rfl rfl (dq 19 rfl) (Nat.le_of_ble_eq_true rfl) (Nat.le_of_ble_eq_true rfl) rfl rfl
  · have h := ite_t c2 h
    refine a_iconst K (dq 6 rfl) (v := 1) rfl ?_
    refine a_goto K (tgt := 28) (dq 7 rfl) rfl ?_
    obtain ⟨r15, h15, h⟩ := bnd h
    refine a_callVi K (s_X7_fails S 1  σ r15 h15) v_20 rfl rfl cw_X7_fails ml_X7_146 (by decide) rfl (rest := []) rfl (Nat.le_of_ble_eq_true rfl) (dq 16 rfl) (by decide) ?_
    refine a_if_eq K (tgt := 36) (dq 17 rfl) rfl (fun c16 => ?_) (fun c16 => ?_)
    · have h := ite_t c16 h
      refine a_aload_n K (dq 20 rfl) rfl rfl ?_
      refine a_aload_n K (dq 21 rfl) rfl rfl ?_
      refine a_iload_n K (dq 22 rfl) rfl rfl ?_
      refine a_iload_n K (dq 23 rfl) rfl rfl ?_
      obtain ⟨r17, h17, h⟩ := bnd h
      refine a_callVi K (s_X7_childOf S a1 a2  r15.2 r17 h17) v_20 rfl rfl cw_X7_childOf ml_X7_127 (by decide) rfl (rest := [.ref (ρ 20 0)]) rfl (Nat.le_of_ble_eq_true rfl) (dq 24 rfl) (by decide) ?_
      obtain ⟨r18, h18, h⟩ := bnd h
      refine a_callVi K (s_X7_behind S r17  r15.2 r18 h18) v_20 rfl rfl cw_X7_behind ml_X7_152 (by decide) rfl (rest := []) rfl (Nat.le_of_ble_eq_true rfl) (dq 25 rfl) (by decide) ?_
      refine a_istore_n K (dq 26 rfl) rfl (Nat.le_of_ble_eq_true rfl) (ls' := [some (.ref (ρ 20 0)), some (.int a1), some (.int a2), some (.int r18)]) rfl ?_
      refine a_iload_n K (dq 27 rfl) rfl rfl ?_
      refine a_aload_n K (dq 28 rfl) rfl rfl ?_
      refine a_iload_n K (dq 29 rfl) rfl rfl ?_
      obtain ⟨r19, h19, h⟩ := bnd h
      refine a_callVi K (s_X7_sizeOf S a1  r15.2 r19 h19) v_20 rfl rfl cw_X7_sizeOf ml_X7_121 (by decide) rfl (rest := [.int r18]) rfl (Nat.le_of_ble_eq_true rfl) (dq 30 rfl) (by decide) ?_
      refine a_iload_n K (dq 31 rfl) rfl rfl ?_
      refine a_isub K (dq 32 rfl) ?_
      refine a_imul K (dq 33 rfl) ?_
      obtain rfl := Option.some.inj h
      exact a_iret K rfl rfl (dq 34 rfl) (Nat.le_of_ble_eq_true rfl) (Nat.le_of_ble_eq_true rfl) rfl rfl
    · have h := ite_f c16 h
      refine a_iconst K (dq 18 rfl) (v := 0) rfl ?_
      obtain rfl := Option.some.inj h
      exact a_iret K rfl rfl (dq 19 rfl) (Nat.le_of_ble_eq_true rfl) (Nat.le_of_ble_eq_true rfl) rfl rfl
def t_X7_isText : List (Nat × Instr × Nat) := [(0, .aload_n 0, 1), (1, .iconst 0, 1), (2, .putfield 173, 3), (5, .aload_n 0, 1), (6, .iconst 0, 1), (7, .putfield 189, 3), (10, .aload_n 0, 1), (11, .invokevirtual 195, 3), (14, .ifCond .ne 5, 3), (17, .iconst 0, 1), (18, .ireturn, 1), (19, .aload_n 0, 1), (20, .dup, 1), (21, .getfield 189, 3), (24, .iconst 1, 1), (25, .iadd, 1), (26, .putfield 189, 3), (29, .aload_n 0, 1), (30, .bipush 59, 2), (32, .invokevirtual 183, 3), (35, .ifCond .ne (-25), 3), (38, .aload_n 0, 1), (39, .getfield 173, 3), (42, .aload_n 0, 1), (43, .getfield 170, 3), (46, .if_icmp .ne 7, 3), (49, .iconst 1, 1), (50, .goto 4, 3), (53, .iconst 0, 1), (54, .ireturn, 1)]
theorem dt_X7_isText : tblOK cX7_isText t_X7_isText = true := by decide +kernel
def p_X7_isText_L10  : Nat → Sg → Option ((Int32 × Sg))
  | 0, _ => none
  | n + 1, σ => (p_X7_commandHere  σ).bind fun r1 => if r1.1 = 0 then (some (0, r1.2)) else ((p_X7_skips 59 (sI r1.2 20 0 21 ((gI r1.2 20 0 21) + 1))).bind fun r3 => if r3.1 = 0 then (if (gI r3.2 20 0 19) = (gI r3.2 20 0 13) then (some (1, r3.2)) else (some (0, r3.2))) else (p_X7_isText_L10 n r3.2))
def p_X7_isText  (σ : Sg) : Option (Int32 × Sg) :=
  p_X7_isText_L10 400 (sI (sI σ 20 0 19 0) 20 0 21 0)
set_option maxRecDepth 20000 in
set_option maxHeartbeats 1000000 in
theorem s_X7_isText_L10 {l : Launch} {D : va_G} {ty : Nat → ClassId} {ρ : Nat → Nat → Nat} {N0 : Nat} (S : St l ty ρ N0)   : ∀ (n : Nat)  (σ : Sg) (r : (Int32 × Sg)) (h : p_X7_isText_L10  n σ = some r) {p : Program} {e : Env} {s : State} {m : MethodId} {args : Array Value} {below : List Frame} {meth : Method} {c : Code} (K : Cx p l s m args meth c cX7_isText 1 RX7 (some .boolean) D ty ρ N0) (hX : ∀ x ∈ c.exceptionTable.toList, False), WA p l e (rmk 6 0 0) s m args below meth c D ty ρ N0 1 (vx_MQ below (oQ D ty ρ N0 (oI r.1) r.2) (oX D ty ρ N0 (oI r.1) r.2) args s 0 0 (fun q => N0 ≤ q)) 10 [some (.ref (ρ 20 0))] [] σ 0 0 := by
  intro n
  induction n with
  | zero =>
    intro σ r h
    simp only [p_X7_isText_L10] at h
    cases h
  | succ n ih =>
    intro σ r h p e s m args below meth c K hX
    have dq := @tat _ _ dt_X7_isText
    rw [p_X7_isText_L10] at h
    refine a_aload_n K (dq 6 rfl) rfl rfl ?_
    obtain ⟨r1, h1, h⟩ := bnd h
    refine a_callVi K (s_X7_commandHere S   σ r1 h1) v_20 rfl rfl cw_X7_commandHere ml_X7_195 (by decide) rfl (rest := []) rfl (Nat.le_of_ble_eq_true rfl) (dq 7 rfl) (by decide) ?_
    refine a_if_ne K (tgt := 19) (dq 8 rfl) rfl (fun c2 => ?_) (fun c2 => ?_)
    · have h := ite_f c2 h
      refine a_aload_n K (dq 11 rfl) rfl rfl ?_
      refine a_dup K (dq 12 rfl) rfl ?_
      refine a_get K (T := 20) (i := 0) (k := 21) (v := .int (gI r1.2 20 0 21)) v_20 rfl rfl in_X7 (Nat.le_of_ble_eq_true rfl) fl_X7_189 rfl (dq 13 rfl) ?_
      refine a_iconst K (dq 14 rfl) (v := 1) rfl ?_
      refine a_iadd K (dq 15 rfl) ?_
      refine a_put K (T := 20) (i := 0) (k := 21) v_20 rfl rfl in_X7 tyX7 tyX7_ok nmX7 (Nat.le_of_ble_eq_true rfl) fl_X7_189 rfl rfl (tyX7_ok 21 (by decide)) rfl rfl (dq 16 rfl) ?_
      refine a_aload_n K (dq 17 rfl) rfl rfl ?_
      refine a_bipush K (dq 18 rfl) (v := 59) rfl ?_
      obtain ⟨r3, h3, h⟩ := bnd h
      refine a_callVi K (s_X7_skips S 59  (sI r1.2 20 0 21 ((gI r1.2 20 0 21) + 1)) r3 h3) v_20 rfl rfl cw_X7_skips ml_X7_183 (by decide) rfl (rest := []) rfl (Nat.le_of_ble_eq_true rfl) (dq 19 rfl) (by decide) ?_
      refine a_if_ne K (tgt := 10) (dq 20 rfl) rfl (fun c4 => ?_) (fun c4 => ?_)
      · have h := ite_f c4 h
        exact ih r3.2 r h K hX
      · have h := ite_t c4 h
        refine a_aload_n K (dq 21 rfl) rfl rfl ?_
        refine a_get K (T := 20) (i := 0) (k := 19) (v := .int (gI r3.2 20 0 19)) v_20 rfl rfl in_X7 (Nat.le_of_ble_eq_true rfl) fl_X7_173 rfl (dq 22 rfl) ?_
        refine a_aload_n K (dq 23 rfl) rfl rfl ?_
        refine a_get K (T := 20) (i := 0) (k := 13) (v := .int (gI r3.2 20 0 13)) v_20 rfl rfl in_X7 (Nat.le_of_ble_eq_true rfl) fl_X7_170 rfl (dq 24 rfl) ?_
        refine a_icmp_ne K (tgt := 53) (dq 25 rfl) rfl (fun c5 => ?_) (fun c5 => ?_)
        · have h := ite_f c5 h
          refine a_iconst K (dq 28 rfl) (v := 0) rfl ?_
          obtain rfl := Option.some.inj h
          exact a_iret K rfl rfl (dq 29 rfl) (Nat.le_of_ble_eq_true rfl) (Nat.le_of_ble_eq_true rfl) rfl rfl
        · have h := ite_t c5 h
          refine a_iconst K (dq 26 rfl) (v := 1) rfl ?_
          refine a_goto K (tgt := 54) (dq 27 rfl) rfl ?_
          obtain rfl := Option.some.inj h
          exact a_iret K rfl rfl (dq 29 rfl) (Nat.le_of_ble_eq_true rfl) (Nat.le_of_ble_eq_true rfl) rfl rfl
    · have h := ite_t c2 h
      refine a_iconst K (dq 9 rfl) (v := 0) rfl ?_
      obtain rfl := Option.some.inj h
      exact a_iret K rfl rfl (dq 10 rfl) (Nat.le_of_ble_eq_true rfl) (Nat.le_of_ble_eq_true rfl) rfl rfl
set_option maxRecDepth 20000 in
set_option maxHeartbeats 1000000 in
theorem s_X7_isText {l : Launch} {D : va_G} {ty : Nat → ClassId} {ρ : Nat → Nat → Nat} {N0 : Nat} (S : St l ty ρ N0)   (σ : Sg) (r : (Int32 × Sg)) (h : p_X7_isText  σ = some r) : AMet l D ty ρ N0 yX7_isText (Cond.code yX7_isText cX7_isText 1 (some .boolean) :: GW) (rmk 6 0 0) [.ref (ρ 20 0)] σ (oI r.1) r.2 := by
  refine am_enter S (by decide) rfl rfl (Nat.le_of_ble_eq_true rfl) ?_
  intro p e s m args below meth c K hX
  have dq := @tat _ _ dt_X7_isText
  unfold p_X7_isText at h
  show WA p l e _ s m args below meth c D ty ρ N0 1 _ 0 [some (.ref (ρ 20 0))] [] σ 0 0
  refine a_aload_n K (dq 0 rfl) rfl rfl ?_
  refine a_iconst K (dq 1 rfl) (v := 0) rfl ?_
  refine a_put K (T := 20) (i := 0) (k := 19) v_20 rfl rfl in_X7 tyX7 tyX7_ok nmX7 (Nat.le_of_ble_eq_true rfl) fl_X7_173 rfl rfl (tyX7_ok 19 (by decide)) rfl rfl (dq 2 rfl) ?_
  refine a_aload_n K (dq 3 rfl) rfl rfl ?_
  refine a_iconst K (dq 4 rfl) (v := 0) rfl ?_
  refine a_put K (T := 20) (i := 0) (k := 21) v_20 rfl rfl in_X7 tyX7 tyX7_ok nmX7 (Nat.le_of_ble_eq_true rfl) fl_X7_189 rfl rfl (tyX7_ok 21 (by decide)) rfl rfl (dq 5 rfl) ?_
  exact s_X7_isText_L10 S    400 (sI (sI σ 20 0 19 0) 20 0 21 0) r h K hX
def t_X7_way : List (Nat × Instr × Nat) := [(0, .aload_n 0, 1), (1, .iload_n 1, 1), (2, .iload_n 2, 1), (3, .invokevirtual 155, 3), (6, .ifCond .eq 5, 3), (9, .iconst 0, 1), (10, .ireturn, 1), (11, .aload_n 0, 1), (12, .iconst 0, 1), (13, .putfield 227, 3), (16, .iconst 0, 1), (17, .istore_n 3, 1), (18, .iload_n 3, 1), (19, .aload_n 0, 1), (20, .getfield 87, 3), (23, .if_icmp .ge 49, 3), (26, .iload_n 3, 1), (27, .ifCond .le 9, 3), (30, .aload_n 0, 1), (31, .bipush 62, 2), (33, .invokevirtual 230, 3), (36, .aload_n 0, 1), (37, .aload_n 0, 1), (38, .getfield 33, 3), (41, .iload_n 3, 1), (42, .iaload, 1), (43, .invokevirtual 233, 3), (46, .aload_n 0, 1), (47, .bipush 36, 2), (49, .invokevirtual 230, 3), (52, .aload_n 0, 1), (53, .aload_n 0, 1), (54, .aload_n 0, 1), (55, .getfield 33, 3), (58, .iload_n 3, 1), (59, .iaload, 1), (60, .invokevirtual 93, 3), (63, .invokevirtual 233, 3), (66, .iinc 3 1, 3), (69, .goto (-51), 3), (72, .aload_n 0, 1), (73, .getfield 227, 3), (76, .ireturn, 1)]
theorem dt_X7_way : tblOK cX7_way t_X7_way = true := by decide +kernel
def p_X7_way_L18  : Nat → Int32 → Sg → Option ((Int32 × Sg))
  | 0, _, _ => none
  | n + 1, v3, σ => if (gI σ 20 0 18) ≤ v3 then (some ((gI σ 20 0 16), σ)) else (if v3 ≤ 0 then (if ib v3 12 then ((p_X7_writesNumber (gA σ 27 0 v3.toNatClampNeg) σ).bind fun r6 => (p_X7_writes 36 r6).bind fun r7 => if ib v3 12 then ((p_X7_toll (gA r7 27 0 v3.toNatClampNeg) r7).bind fun r9 => (p_X7_writesNumber r9 r7).bind fun r10 => p_X7_way_L18 n (v3 + 1) r10) else none) else none) else ((p_X7_writes 62 σ).bind fun r11 => if ib v3 12 then ((p_X7_writesNumber (gA r11 27 0 v3.toNatClampNeg) r11).bind fun r13 => (p_X7_writes 36 r13).bind fun r14 => if ib v3 12 then ((p_X7_toll (gA r14 27 0 v3.toNatClampNeg) r14).bind fun r16 => (p_X7_writesNumber r16 r14).bind fun r17 => p_X7_way_L18 n (v3 + 1) r17) else none) else none))
def p_X7_way (a1 : Int32) (a2 : Int32) (σ : Sg) : Option (Int32 × Sg) :=
  (p_X7_isNoWay a1 a2 σ).bind fun r1 => if r1.1 = 0 then (p_X7_way_L18 400 0 (sI r1.2 20 0 16 0)) else (some (0, r1.2))
set_option maxRecDepth 20000 in
set_option maxHeartbeats 1000000 in
theorem s_X7_way_L18 {l : Launch} {D : va_G} {ty : Nat → ClassId} {ρ : Nat → Nat → Nat} {N0 : Nat} (S : St l ty ρ N0)   : ∀ (n : Nat) (v3 : Int32) (σ : Sg) (r : (Int32 × Sg)) (h : p_X7_way_L18  n v3 σ = some r) {p : Program} {e : Env} {s : State} {m : MethodId} {args : Array Value} {below : List Frame} {meth : Method} {c : Code} (K : Cx p l s m args meth c cX7_way 4 RX7 (some .int) D ty ρ N0) (hX : ∀ x ∈ c.exceptionTable.toList, False), WA p l e (rmk 6 0 0) s m args below meth c D ty ρ N0 4 (vx_MQ below (oQ D ty ρ N0 (oI r.1) r.2) (oX D ty ρ N0 (oI r.1) r.2) args s 0 0 (fun q => N0 ≤ q)) 18 [some (.ref (ρ 20 0)), none, none, some (.int v3)] [] σ 0 0 := by
  intro n
  induction n with
  | zero =>
    intro v3 σ r h
    simp only [p_X7_way_L18] at h
    cases h
  | succ n ih =>
    intro v3 σ r h p e s m args below meth c K hX
    have dq := @tat _ _ dt_X7_way
    rw [p_X7_way_L18] at h
    refine a_iload_n K (dq 12 rfl) rfl rfl ?_
    refine a_aload_n K (dq 13 rfl) rfl rfl ?_
    refine a_get K (T := 20) (i := 0) (k := 18) (v := .int (gI σ 20 0 18)) v_20 rfl rfl in_X7 (Nat.le_of_ble_eq_true rfl) fl_X7_87 rfl (dq 14 rfl) ?_
    refine a_icmp_ge K (tgt := 72) (dq 15 rfl) rfl (fun c3 => ?_) (fun c3 => ?_)
    · have h := ite_t c3 h
      refine a_aload_n K (dq 40 rfl) rfl rfl ?_
      refine a_get K (T := 20) (i := 0) (k := 16) (v := .int (gI σ 20 0 16)) v_20 rfl rfl in_X7 (Nat.le_of_ble_eq_true rfl) fl_X7_227 rfl (dq 41 rfl) ?_
      obtain rfl := Option.some.inj h
      exact a_iret K rfl rfl (dq 42 rfl) (Nat.le_of_ble_eq_true rfl) (Nat.le_of_ble_eq_true rfl) rfl rfl
    · have h := ite_f c3 h
      refine a_iload_n K (dq 16 rfl) rfl rfl ?_
      refine a_if_le K (tgt := 36) (dq 17 rfl) rfl (fun c4 => ?_) (fun c4 => ?_)
      · have h := ite_t c4 h
        refine a_aload_n K (dq 21 rfl) rfl rfl ?_
        refine a_aload_n K (dq 22 rfl) rfl rfl ?_
        refine a_get K (T := 20) (i := 0) (k := 17) (v := .ref (ρ 27 0)) v_20 rfl rfl in_X7 (Nat.le_of_ble_eq_true rfl) fl_X7_33 rfl (dq 23 rfl) ?_
        refine a_iload_n K (dq 24 rfl) rfl rfl ?_
        obtain ⟨c5, h⟩ := ib_some h
        refine a_iald K (T := 27) (i := 0) v_27 rfl rfl c5 (dq 25 rfl) ?_
        obtain ⟨r6, h6, h⟩ := bnd h
        refine a_callVv K (s_X7_writesNumber S (gA σ 27 0 v3.toNatClampNeg)  σ r6 h6) v_20 rfl rfl cw_X7_writesNumber ml_X7_233 (by decide) rfl (rest := []) rfl (Nat.le_of_ble_eq_true rfl) (dq 26 rfl) (by decide) ?_
        refine a_aload_n K (dq 27 rfl) rfl rfl ?_
        refine a_bipush K (dq 28 rfl) (v := 36) rfl ?_
        obtain ⟨r7, h7, h⟩ := bnd h
        refine a_callVv K (s_X7_writes S 36  r6 r7 h7) v_20 rfl rfl cw_X7_writes ml_X7_230 (by decide) rfl (rest := []) rfl (Nat.le_of_ble_eq_true rfl) (dq 29 rfl) (by decide) ?_
        refine a_aload_n K (dq 30 rfl) rfl rfl ?_
        refine a_aload_n K (dq 31 rfl) rfl rfl ?_
        refine a_aload_n K (dq 32 rfl) rfl rfl ?_
        refine a_get K (T := 20) (i := 0) (k := 17) (v := .ref (ρ 27 0)) v_20 rfl rfl in_X7 (Nat.le_of_ble_eq_true rfl) fl_X7_33 rfl (dq 33 rfl) ?_
        refine a_iload_n K (dq 34 rfl) rfl rfl ?_
        obtain ⟨c8, h⟩ := ib_some h
        refine a_iald K (T := 27) (i := 0) v_27 rfl rfl c8 (dq 35 rfl) ?_
        obtain ⟨r9, h9, h⟩ := bnd h
        refine a_callVi K (s_X7_toll S (gA r7 27 0 v3.toNatClampNeg)  r7 r9 h9) v_20 rfl rfl cw_X7_toll ml_X7_93 (by decide) rfl (rest := [.ref (ρ 20 0)]) rfl (Nat.le_of_ble_eq_true rfl) (dq 36 rfl) (by decide) ?_
        obtain ⟨r10, h10, h⟩ := bnd h
        refine a_callVv K (s_X7_writesNumber S r9  r7 r10 h10) v_20 rfl rfl cw_X7_writesNumber ml_X7_233 (by decide) rfl (rest := []) rfl (Nat.le_of_ble_eq_true rfl) (dq 37 rfl) (by decide) ?_
        refine a_iinc K (dq 38 rfl) rfl (v := (v3 + 1)) rfl (Nat.le_of_ble_eq_true rfl) (ls' := [some (.ref (ρ 20 0)), none, none, some (.int (v3 + 1))]) rfl ?_
        refine a_goto K (tgt := 18) (dq 39 rfl) rfl ?_
        exact ih (v3 + 1) r10 r h K hX
      · have h := ite_f c4 h
        refine a_aload_n K (dq 18 rfl) rfl rfl ?_
        refine a_bipush K (dq 19 rfl) (v := 62) rfl ?_
        obtain ⟨r11, h11, h⟩ := bnd h
        refine a_callVv K (s_X7_writes S 62  σ r11 h11) v_20 rfl rfl cw_X7_writes ml_X7_230 (by decide) rfl (rest := []) rfl (Nat.le_of_ble_eq_true rfl) (dq 20 rfl) (by decide) ?_
        refine a_aload_n K (dq 21 rfl) rfl rfl ?_
        refine a_aload_n K (dq 22 rfl) rfl rfl ?_
        refine a_get K (T := 20) (i := 0) (k := 17) (v := .ref (ρ 27 0)) v_20 rfl rfl in_X7 (Nat.le_of_ble_eq_true rfl) fl_X7_33 rfl (dq 23 rfl) ?_
        refine a_iload_n K (dq 24 rfl) rfl rfl ?_
        obtain ⟨c12, h⟩ := ib_some h
        refine a_iald K (T := 27) (i := 0) v_27 rfl rfl c12 (dq 25 rfl) ?_
        obtain ⟨r13, h13, h⟩ := bnd h
        refine a_callVv K (s_X7_writesNumber S (gA r11 27 0 v3.toNatClampNeg)  r11 r13 h13) v_20 rfl rfl cw_X7_writesNumber ml_X7_233 (by decide) rfl (rest := []) rfl (Nat.le_of_ble_eq_true rfl) (dq 26 rfl) (by decide) ?_
        refine a_aload_n K (dq 27 rfl) rfl rfl ?_
        refine a_bipush K (dq 28 rfl) (v := 36) rfl ?_
        obtain ⟨r14, h14, h⟩ := bnd h
        refine a_callVv K (s_X7_writes S 36  r13 r14 h14) v_20 rfl rfl cw_X7_writes ml_X7_230 (by decide) rfl (rest := []) rfl (Nat.le_of_ble_eq_true rfl) (dq 29 rfl) (by decide) ?_
        refine a_aload_n K (dq 30 rfl) rfl rfl ?_
        refine a_aload_n K (dq 31 rfl) rfl rfl ?_
        refine a_aload_n K (dq 32 rfl) rfl rfl ?_
        refine a_get K (T := 20) (i := 0) (k := 17) (v := .ref (ρ 27 0)) v_20 rfl rfl in_X7 (Nat.le_of_ble_eq_true rfl) fl_X7_33 rfl (dq 33 rfl) ?_
        refine a_iload_n K (dq 34 rfl) rfl rfl ?_
        obtain ⟨c15, h⟩ := ib_some h
        refine a_iald K (T := 27) (i := 0) v_27 rfl rfl c15 (dq 35 rfl) ?_
        obtain ⟨r16, h16, h⟩ := bnd h
        refine a_callVi K (s_X7_toll S (gA r14 27 0 v3.toNatClampNeg)  r14 r16 h16) v_20 rfl rfl cw_X7_toll ml_X7_93 (by decide) rfl (rest := [.ref (ρ 20 0)]) rfl (Nat.le_of_ble_eq_true rfl) (dq 36 rfl) (by decide) ?_
        obtain ⟨r17, h17, h⟩ := bnd h
        refine a_callVv K (s_X7_writesNumber S r16  r14 r17 h17) v_20 rfl rfl cw_X7_writesNumber ml_X7_233 (by decide) rfl (rest := []) rfl (Nat.le_of_ble_eq_true rfl) (dq 37 rfl) (by decide) ?_
        refine a_iinc K (dq 38 rfl) rfl (v := (v3 + 1)) rfl (Nat.le_of_ble_eq_true rfl) (ls' := [some (.ref (ρ 20 0)), none, none, some (.int (v3 + 1))]) rfl ?_
        refine a_goto K (tgt := 18) (dq 39 rfl) rfl ?_
        exact ih (v3 + 1) r17 r h K hX
set_option maxRecDepth 20000 in
set_option maxHeartbeats 1000000 in
theorem s_X7_way {l : Launch} {D : va_G} {ty : Nat → ClassId} {ρ : Nat → Nat → Nat} {N0 : Nat} (S : St l ty ρ N0) (a1 : Int32) (a2 : Int32)  (σ : Sg) (r : (Int32 × Sg)) (h : p_X7_way a1 a2 σ = some r) : AMet l D ty ρ N0 yX7_way (Cond.code yX7_way cX7_way 4 (some .int) :: GW) (rmk 6 0 0) [.ref (ρ 20 0), .int a1, .int a2] σ (oI r.1) r.2 := by
  refine am_enter S (by decide) rfl rfl (Nat.le_of_ble_eq_true rfl) ?_
  intro p e s m args below meth c K hX
  have dq := @tat _ _ dt_X7_way
  unfold p_X7_way at h
  show WA p l e _ s m args below meth c D ty ρ N0 4 _ 0 [some (.ref (ρ 20 0)), some (.int a1), some (.int a2), none] [] σ 0 0
  refine a_aload_n K (dq 0 rfl) rfl rfl ?_
  refine a_iload_n K (dq 1 rfl) rfl rfl ?_
  refine a_iload_n K (dq 2 rfl) rfl rfl ?_
  obtain ⟨r1, h1, h⟩ := bnd h
  refine a_callVi K (s_X7_isNoWay S a1 a2  σ r1 h1) v_20 rfl rfl cw_X7_isNoWay ml_X7_155 (by decide) rfl (rest := []) rfl (Nat.le_of_ble_eq_true rfl) (dq 3 rfl) (by decide) ?_
  refine a_if_eq K (tgt := 11) (dq 4 rfl) rfl (fun c2 => ?_) (fun c2 => ?_)
  · have h := ite_t c2 h
    refine a_aload_n K (dq 7 rfl) rfl rfl ?_
    refine a_iconst K (dq 8 rfl) (v := 0) rfl ?_
    refine a_put K (T := 20) (i := 0) (k := 16) v_20 rfl rfl in_X7 tyX7 tyX7_ok nmX7 (Nat.le_of_ble_eq_true rfl) fl_X7_227 rfl rfl (tyX7_ok 16 (by decide)) rfl rfl (dq 9 rfl) ?_
    refine a_iconst K (dq 10 rfl) (v := 0) rfl ?_
    refine a_istore_n K (dq 11 rfl) rfl (Nat.le_of_ble_eq_true rfl) (ls' := [some (.ref (ρ 20 0)), some (.int a1), some (.int a2), some (.int 0)]) rfl ?_
    refine a_le2 (ls' := [some (.ref (ρ 20 0)), none, none, some (.int 0)]) ⟨rfl, rfl, trivial⟩ ?_
    exact s_X7_way_L18 S    400 0 (sI r1.2 20 0 16 0) r h K hX
  · have h := ite_f c2 h
    refine a_iconst K (dq 5 rfl) (v := 0) rfl ?_
    obtain rfl := Option.some.inj h
    exact a_iret K rfl rfl (dq 6 rfl) (Nat.le_of_ble_eq_true rfl) (Nat.le_of_ble_eq_true rfl) rfl rfl
def t_X7_lay : List (Nat × Instr × Nat) := [(0, .aload_n 0, 1), (1, .iload_n 1, 1), (2, .iload_n 2, 1), (3, .invokevirtual 107, 3), (6, .ifCond .ne 15, 3), (9, .aload_n 0, 1), (10, .iconst 3, 1), (11, .aload_n 0, 1), (12, .iload_n 1, 1), (13, .iload_n 2, 1), (14, .invokevirtual 110, 3), (17, .invokevirtual 96, 3), (20, .ireturn, 1), (21, .iload_n 1, 1), (22, .iload_n 2, 1), (23, .if_icmp .ne 10, 3), (26, .aload_n 0, 1), (27, .iconst 4, 1), (28, .iload_n 1, 1), (29, .invokevirtual 96, 3), (32, .ireturn, 1), (33, .aload_n 0, 1), (34, .iload_n 1, 1), (35, .iload_n 2, 1), (36, .invokevirtual 76, 3), (39, .ifCond .eq 21, 3), (42, .aload_n 0, 1), (43, .iload_n 1, 1), (44, .iload_n 2, 1), (45, .invokevirtual 113, 3), (48, .aload_n 0, 1), (49, .iconst 5, 1), (50, .aload_n 0, 1), (51, .getfield 87, 3), (54, .iconst 1, 1), (55, .isub, 1), (56, .invokevirtual 96, 3), (59, .ireturn, 1), (60, .aload_n 0, 1), (61, .aload_n 0, 1), (62, .getfield 7, 3), (65, .invokevirtual 99, 3), (68, .aload_n 0, 1), (69, .iload_n 1, 1), (70, .invokevirtual 69, 3), (73, .ifCond .lt 8, 3), (76, .aload_n 0, 1), (77, .iload_n 1, 1), (78, .invokevirtual 117, 3), (81, .aload_n 0, 1), (82, .getfield 7, 3), (85, .bipush 20, 2), (87, .iload_n 1, 1), (88, .iadd, 1), (89, .iload_n 2, 1), (90, .iastore, 1), (91, .aload_n 0, 1), (92, .iload_n 1, 1), (93, .invokevirtual 121, 3), (96, .ireturn, 1)]
theorem dt_X7_lay : tblOK cX7_lay t_X7_lay = true := by decide +kernel
def p_X7_lay (a1 : Int32) (a2 : Int32) (σ : Sg) : Option (Int32 × Sg) :=
  (p_X7_areFarms a1 a2 σ).bind fun r1 => if r1 = 0 then ((p_X7_noFarm a1 a2 σ).bind fun r17 => (p_X7_refuses 3 r17 σ).bind fun r18 => some (r18.1, r18.2)) else (if a1 = a2 then ((p_X7_refuses 4 a1 σ).bind fun r16 => some (r16.1, r16.2)) else ((p_X7_areJoined a1 a2 σ).bind fun r4 => if r4 = 0 then ((p_X7_keeps 21 σ).bind fun r6 => (p_X7_parent a1 r6).bind fun r7 => if r7 < 0 then (if ib (20 + a1) 44 then ((p_X7_sizeOf a1 (sA r6 21 0 (20 + a1).toNatClampNeg a2)).bind fun r10 => some (r10, sA r6 21 0 (20 + a1).toNatClampNeg a2)) else none) else ((p_X7_roots a1 r6).bind fun r11 => if ib (20 + a1) 44 then ((p_X7_sizeOf a1 (sA r11 21 0 (20 + a1).toNatClampNeg a2)).bind fun r13 => some (r13, sA r11 21 0 (20 + a1).toNatClampNeg a2)) else none)) else ((p_X7_goes a1 a2 σ).bind fun r14 => (p_X7_refuses 5 ((gI r14 20 0 18) - 1) r14).bind fun r15 => some (r15.1, r15.2))))
set_option maxRecDepth 20000 in
set_option maxHeartbeats 1000000 in
theorem s_X7_lay {l : Launch} {D : va_G} {ty : Nat → ClassId} {ρ : Nat → Nat → Nat} {N0 : Nat} (S : St l ty ρ N0) (a1 : Int32) (a2 : Int32)  (σ : Sg) (r : (Int32 × Sg)) (h : p_X7_lay a1 a2 σ = some r) : AMet l D ty ρ N0 yX7_lay (Cond.code yX7_lay cX7_lay 3 (some .int) :: GW) (rmk 5 0 0) [.ref (ρ 20 0), .int a1, .int a2] σ (oI r.1) r.2 := by
  refine am_enter S (by decide) rfl rfl (Nat.le_of_ble_eq_true rfl) ?_
  intro p e s m args below meth c K hX
  have dq := @tat _ _ dt_X7_lay
  unfold p_X7_lay at h
  show WA p l e _ s m args below meth c D ty ρ N0 3 _ 0 [some (.ref (ρ 20 0)), some (.int a1), some (.int a2)] [] σ 0 0
  refine a_aload_n K (dq 0 rfl) rfl rfl ?_
  refine a_iload_n K (dq 1 rfl) rfl rfl ?_
  refine a_iload_n K (dq 2 rfl) rfl rfl ?_
  obtain ⟨r1, h1, h⟩ := bnd h
  refine a_callVi K (s_X7_areFarms S a1 a2  σ r1 h1) v_20 rfl rfl cw_X7_areFarms ml_X7_107 (by decide) rfl (rest := []) rfl (Nat.le_of_ble_eq_true rfl) (dq 3 rfl) (by decide) ?_
  refine a_if_ne K (tgt := 21) (dq 4 rfl) rfl (fun c2 => ?_) (fun c2 => ?_)
  · have h := ite_f c2 h
    refine a_iload_n K (dq 13 rfl) rfl rfl ?_
    refine a_iload_n K (dq 14 rfl) rfl rfl ?_
    refine a_icmp_ne K (tgt := 33) (dq 15 rfl) rfl (fun c3 => ?_) (fun c3 => ?_)
    · have h := ite_f c3 h
      refine a_aload_n K (dq 21 rfl) rfl rfl ?_
      refine a_iload_n K (dq 22 rfl) rfl rfl ?_
      refine a_iload_n K (dq 23 rfl) rfl rfl ?_
      obtain ⟨r4, h4, h⟩ := bnd h
      refine a_callVi K (s_X7_areJoined S a1 a2  σ r4 h4) v_20 rfl rfl cw_X7_areJoined ml_X7_76 (by decide) rfl (rest := []) rfl (Nat.le_of_ble_eq_true rfl) (dq 24 rfl) (by decide) ?_
      refine a_if_eq K (tgt := 60) (dq 25 rfl) rfl (fun c5 => ?_) (fun c5 => ?_)
      · have h := ite_t c5 h
        refine a_aload_n K (dq 38 rfl) rfl rfl ?_
        refine a_aload_n K (dq 39 rfl) rfl rfl ?_
        refine a_get K (T := 20) (i := 0) (k := 0) (v := .ref (ρ 21 0)) v_20 rfl rfl in_X7 (Nat.le_of_ble_eq_true rfl) fl_X7_7 rfl (dq 40 rfl) ?_
        obtain ⟨r6, h6, h⟩ := bnd h
        refine a_callVv K (s_X7_keeps S 21 v_21 rfl rfl σ r6 h6) v_20 rfl rfl cw_X7_keeps ml_X7_99 (by decide) rfl (rest := []) rfl (Nat.le_of_ble_eq_true rfl) (dq 41 rfl) (by decide) ?_
        refine a_aload_n K (dq 42 rfl) rfl rfl ?_
        refine a_iload_n K (dq 43 rfl) rfl rfl ?_
        obtain ⟨r7, h7, h⟩ := bnd h
        refine a_callVi K (s_X7_parent S a1  r6 r7 h7) v_20 rfl rfl cw_X7_parent ml_X7_69 (by decide) rfl (rest := []) rfl (Nat.le_of_ble_eq_true rfl) (dq 44 rfl) (by decide) ?_
        refine a_if_lt K (tgt := 81) (dq 45 rfl) rfl (fun c8 => ?_) (fun c8 => ?_)
        · have h := ite_t c8 h
          refine a_aload_n K (dq 49 rfl) rfl rfl ?_
          refine a_get K (T := 20) (i := 0) (k := 0) (v := .ref (ρ 21 0)) v_20 rfl rfl in_X7 (Nat.le_of_ble_eq_true rfl) fl_X7_7 rfl (dq 50 rfl) ?_
          refine a_bipush K (dq 51 rfl) (v := 20) rfl ?_
          refine a_iload_n K (dq 52 rfl) rfl rfl ?_
          refine a_iadd K (dq 53 rfl) ?_
          refine a_iload_n K (dq 54 rfl) rfl rfl ?_
          obtain ⟨c9, h⟩ := ib_some h
          refine a_iast K (T := 21) (i := 0) v_21 rfl rfl c9 (dq 55 rfl) ?_
          refine a_aload_n K (dq 56 rfl) rfl rfl ?_
          refine a_iload_n K (dq 57 rfl) rfl rfl ?_
          obtain ⟨r10, h10, h⟩ := bnd h
          refine a_callVi K (s_X7_sizeOf S a1  (sA r6 21 0 (20 + a1).toNatClampNeg a2) r10 h10) v_20 rfl rfl cw_X7_sizeOf ml_X7_121 (by decide) rfl (rest := []) rfl (Nat.le_of_ble_eq_true rfl) (dq 58 rfl) (by decide) ?_
          obtain rfl := Option.some.inj h
          exact a_iret K rfl rfl (dq 59 rfl) (Nat.le_of_ble_eq_true rfl) (Nat.le_of_ble_eq_true rfl) rfl rfl
        · have h := ite_f c8 h
          refine a_aload_n K (dq 46 rfl) rfl rfl ?_
          refine a_iload_n K (dq 47 rfl) rfl rfl ?_
          obtain ⟨r11, h11, h⟩ := bnd h
          refine a_callVv K (s_X7_roots S a1  r6 r11 h11) v_20 rfl rfl cw_X7_roots ml_X7_117 (by decide) rfl (rest := []) rfl (Nat.le_of_ble_eq_true rfl) (dq 48 rfl) (by decide) ?_
          refine a_aload_n K (dq 49 rfl) rfl rfl ?_
          refine a_get K (T := 20) (i := 0) (k := 0) (v := .ref (ρ 21 0)) v_20 rfl rfl in_X7 (Nat.le_of_ble_eq_true rfl) fl_X7_7 rfl (dq 50 rfl) ?_
          refine a_bipush K (dq 51 rfl) (v := 20) rfl ?_
          refine a_iload_n K (dq 52 rfl) rfl rfl ?_
          refine a_iadd K (dq 53 rfl) ?_
          refine a_iload_n K (dq 54 rfl) rfl rfl ?_
          obtain ⟨c12, h⟩ := ib_some h
          refine a_iast K (T := 21) (i := 0) v_21 rfl rfl c12 (dq 55 rfl) ?_
          refine a_aload_n K (dq 56 rfl) rfl rfl ?_
          refine a_iload_n K (dq 57 rfl) rfl rfl ?_
          obtain ⟨r13, h13, h⟩ := bnd h
          refine a_callVi K (s_X7_sizeOf S a1  (sA r11 21 0 (20 + a1).toNatClampNeg a2) r13 h13) v_20 rfl rfl cw_X7_sizeOf ml_X7_121 (by decide) rfl (rest := []) rfl (Nat.le_of_ble_eq_true rfl) (dq 58 rfl) (by decide) ?_
          obtain rfl := Option.some.inj h
          exact a_iret K rfl rfl (dq 59 rfl) (Nat.le_of_ble_eq_true rfl) (Nat.le_of_ble_eq_true rfl) rfl rfl
      · have h := ite_f c5 h
        refine a_aload_n K (dq 26 rfl) rfl rfl ?_
        refine a_iload_n K (dq 27 rfl) rfl rfl ?_
        refine a_iload_n K (dq 28 rfl) rfl rfl ?_
        obtain ⟨r14, h14, h⟩ := bnd h
        refine a_callVv K (s_X7_goes S a1 a2  σ r14 h14) v_20 rfl rfl cw_X7_goes ml_X7_113 (by decide) rfl (rest := []) rfl (Nat.le_of_ble_eq_true rfl) (dq 29 rfl) (by decide) ?_
        refine a_aload_n K (dq 30 rfl) rfl rfl ?_
        refine a_iconst K (dq 31 rfl) (v := 5) rfl ?_
        refine a_aload_n K (dq 32 rfl) rfl rfl ?_
        refine a_get K (T := 20) (i := 0) (k := 18) (v := .int (gI r14 20 0 18)) v_20 rfl rfl in_X7 (Nat.le_of_ble_eq_true rfl) fl_X7_87 rfl (dq 33 rfl) ?_
        refine a_iconst K (dq 34 rfl) (v := 1) rfl ?_
        refine a_isub K (dq 35 rfl) ?_
        obtain ⟨r15, h15, h⟩ := bnd h
        refine a_callVi K (s_X7_refuses S 5 ((gI r14 20 0 18) - 1)  r14 r15 h15) v_20 rfl rfl cw_X7_refuses ml_X7_96 (by decide) rfl (rest := []) rfl (Nat.le_of_ble_eq_true rfl) (dq 36 rfl) (by decide) ?_
        obtain rfl := Option.some.inj h
        exact a_iret K rfl rfl (dq 37 rfl) (Nat.le_of_ble_eq_true rfl) (Nat.le_of_ble_eq_true rfl) rfl rfl
    · have h := ite_t c3 h
      refine a_aload_n K (dq 16 rfl) rfl rfl ?_
      refine a_iconst K (dq 17 rfl) (v := 4) rfl ?_
      refine a_iload_n K (dq 18 rfl) rfl rfl ?_
      obtain ⟨r16, h16, h⟩ := bnd h
      refine a_callVi K (s_X7_refuses S 4 a1  σ r16 h16) v_20 rfl rfl cw_X7_refuses ml_X7_96 (by decide) rfl (rest := []) rfl (Nat.le_of_ble_eq_true rfl) (dq 19 rfl) (by decide) ?_
      obtain rfl := Option.some.inj h
      exact a_iret K rfl rfl (dq 20 rfl) (Nat.le_of_ble_eq_true rfl) (Nat.le_of_ble_eq_true rfl) rfl rfl
  · have h := ite_t c2 h
    refine a_aload_n K (dq 5 rfl) rfl rfl ?_
    refine a_iconst K (dq 6 rfl) (v := 3) rfl ?_
    refine a_aload_n K (dq 7 rfl) rfl rfl ?_
    refine a_iload_n K (dq 8 rfl) rfl rfl ?_
    refine a_iload_n K (dq 9 rfl) rfl rfl ?_
    obtain ⟨r17, h17, h⟩ := bnd h
    refine a_callVi K (s_X7_noFarm S a1 a2  σ r17 h17) v_20 rfl rfl cw_X7_noFarm ml_X7_110 (by decide) rfl (rest := [.int 3, .ref (ρ 20 0)]) rfl (Nat.le_of_ble_eq_true rfl) (dq 10 rfl) (by decide) ?_
    obtain ⟨r18, h18, h⟩ := bnd h
    refine a_callVi K (s_X7_refuses S 3 r17  σ r18 h18) v_20 rfl rfl cw_X7_refuses ml_X7_96 (by decide) rfl (rest := []) rfl (Nat.le_of_ble_eq_true rfl) (dq 11 rfl) (by decide) ?_
    obtain rfl := Option.some.inj h
    exact a_iret K rfl rfl (dq 12 rfl) (Nat.le_of_ble_eq_true rfl) (Nat.le_of_ble_eq_true rfl) rfl rfl
def t_X7_steps : List (Nat × Instr × Nat) := [(0, .aload_n 0, 1), (1, .iload_n 1, 1), (2, .iload_n 2, 1), (3, .invokevirtual 155, 3), (6, .ifCond .eq 7, 3), (9, .iconst 0, 1), (10, .goto 9, 3), (13, .aload_n 0, 1), (14, .getfield 87, 3), (17, .iconst 1, 1), (18, .isub, 1), (19, .ireturn, 1)]
theorem dt_X7_steps : tblOK cX7_steps t_X7_steps = true := by decide +kernel
def p_X7_steps (a1 : Int32) (a2 : Int32) (σ : Sg) : Option (Int32 × Sg) :=
  (p_X7_isNoWay a1 a2 σ).bind fun r1 => if r1.1 = 0 then (some (((gI r1.2 20 0 18) - 1), r1.2)) else (some (0, r1.2))
set_option maxRecDepth 20000 in
set_option maxHeartbeats 1000000 in
theorem s_X7_steps {l : Launch} {D : va_G} {ty : Nat → ClassId} {ρ : Nat → Nat → Nat} {N0 : Nat} (S : St l ty ρ N0) (a1 : Int32) (a2 : Int32)  (σ : Sg) (r : (Int32 × Sg)) (h : p_X7_steps a1 a2 σ = some r) : AMet l D ty ρ N0 yX7_steps (Cond.code yX7_steps cX7_steps 3 (some .int) :: GW) (rmk 6 0 0) [.ref (ρ 20 0), .int a1, .int a2] σ (oI r.1) r.2 := by
  refine am_enter S (by decide) rfl rfl (Nat.le_of_ble_eq_true rfl) ?_
  intro p e s m args below meth c K hX
  have dq := @tat _ _ dt_X7_steps
  unfold p_X7_steps at h
  show WA p l e _ s m args below meth c D ty ρ N0 3 _ 0 [some (.ref (ρ 20 0)), some (.int a1), some (.int a2)] [] σ 0 0
  refine a_aload_n K (dq 0 rfl) rfl rfl ?_
  refine a_iload_n K (dq 1 rfl) rfl rfl ?_
  refine a_iload_n K (dq 2 rfl) rfl rfl ?_
  obtain ⟨r1, h1, h⟩ := bnd h
  refine a_callVi K (s_X7_isNoWay S a1 a2  σ r1 h1) v_20 rfl rfl cw_X7_isNoWay ml_X7_155 (by decide) rfl (rest := []) rfl (Nat.le_of_ble_eq_true rfl) (dq 3 rfl) (by decide) ?_
  refine a_if_eq K (tgt := 13) (dq 4 rfl) rfl (fun c2 => ?_) (fun c2 => ?_)
  · have h := ite_t c2 h
    refine a_aload_n K (dq 7 rfl) rfl rfl ?_
    refine a_get K (T := 20) (i := 0) (k := 18) (v := .int (gI r1.2 20 0 18)) v_20 rfl rfl in_X7 (Nat.le_of_ble_eq_true rfl) fl_X7_87 rfl (dq 8 rfl) ?_
    refine a_iconst K (dq 9 rfl) (v := 1) rfl ?_
    refine a_isub K (dq 10 rfl) ?_
    obtain rfl := Option.some.inj h
    exact a_iret K rfl rfl (dq 11 rfl) (Nat.le_of_ble_eq_true rfl) (Nat.le_of_ble_eq_true rfl) rfl rfl
  · have h := ite_f c2 h
    refine a_iconst K (dq 5 rfl) (v := 0) rfl ?_
    refine a_goto K (tgt := 19) (dq 6 rfl) rfl ?_
    obtain rfl := Option.some.inj h
    exact a_iret K rfl rfl (dq 11 rfl) (Nat.le_of_ble_eq_true rfl) (Nat.le_of_ble_eq_true rfl) rfl rfl
def t_X7_farthestOf : List (Nat × Instr × Nat) := [(0, .iload_n 1, 1), (1, .istore_n 2, 1), (2, .iconst 0, 1), (3, .istore_n 3, 1), (4, .iconst 0, 1), (5, .istore 4, 2), (7, .iload 4, 2), (9, .aload_n 0, 1), (10, .getfield 7, 3), (13, .iconst 0, 1), (14, .iaload, 1), (15, .if_icmp .ge 47, 3), (18, .aload_n 0, 1), (19, .iload 4, 2), (21, .iload_n 1, 1), (22, .invokevirtual 76, 3), (25, .ifCond .eq 13, 3), (28, .aload_n 0, 1), (29, .iload_n 1, 1), (30, .iload 4, 2), (32, .invokevirtual 161, 3), (35, .goto 4, 3), (38, .iconst 0, 1), (39, .istore 5, 2), (41, .iload 5, 2), (43, .iload_n 3, 1), (44, .if_icmp .gt 6, 3), (47, .goto 9, 3), (50, .iload 5, 2), (52, .istore_n 3, 1), (53, .iload 4, 2), (55, .istore_n 2, 1), (56, .iinc 4 1, 3), (59, .goto (-52), 3), (62, .iload_n 2, 1), (63, .ireturn, 1)]
theorem dt_X7_farthestOf : tblOK cX7_farthestOf t_X7_farthestOf = true := by decide +kernel
def p_X7_farthestOf_L7  : Nat → Int32 → Int32 → Int32 → Int32 → Sg → Option ((Int32 × Sg))
  | 0, _, _, _, _, _ => none
  | n + 1, v1, v2, v3, v4, σ => if (gA σ 21 0 0) ≤ v4 then (some (v2, σ)) else ((p_X7_areJoined v4 v1 σ).bind fun r2 => if r2 = 0 then (if v3 < 0 then (p_X7_farthestOf_L7 n v1 v4 0 (v4 + 1) σ) else (p_X7_farthestOf_L7 n v1 v2 v3 (v4 + 1) σ)) else ((p_X7_tracks v1 v4 σ).bind fun r5 => if v3 < r5.1 then (p_X7_farthestOf_L7 n v1 v4 r5.1 (v4 + 1) r5.2) else (p_X7_farthestOf_L7 n v1 v2 v3 (v4 + 1) r5.2)))
def p_X7_farthestOf (a1 : Int32) (σ : Sg) : Option (Int32 × Sg) :=
  p_X7_farthestOf_L7 400 a1 a1 0 0 σ
set_option maxRecDepth 20000 in
set_option maxHeartbeats 1000000 in
theorem s_X7_farthestOf_L7 {l : Launch} {D : va_G} {ty : Nat → ClassId} {ρ : Nat → Nat → Nat} {N0 : Nat} (S : St l ty ρ N0)   : ∀ (n : Nat) (v1 : Int32) (v2 : Int32) (v3 : Int32) (v4 : Int32) (σ : Sg) (r : (Int32 × Sg)) (h : p_X7_farthestOf_L7  n v1 v2 v3 v4 σ = some r) {p : Program} {e : Env} {s : State} {m : MethodId} {args : Array Value} {below : List Frame} {meth : Method} {c : Code} (K : Cx p l s m args meth c cX7_farthestOf 6 RX7 (some .int) D ty ρ N0) (hX : ∀ x ∈ c.exceptionTable.toList, False), WA p l e (rmk 6 0 0) s m args below meth c D ty ρ N0 6 (vx_MQ below (oQ D ty ρ N0 (oI r.1) r.2) (oX D ty ρ N0 (oI r.1) r.2) args s 0 0 (fun q => N0 ≤ q)) 7 [some (.ref (ρ 20 0)), some (.int v1), some (.int v2), some (.int v3), some (.int v4), none] [] σ 0 0 := by
  intro n
  induction n with
  | zero =>
    intro v1 v2 v3 v4 σ r h
    simp only [p_X7_farthestOf_L7] at h
    cases h
  | succ n ih =>
    intro v1 v2 v3 v4 σ r h p e s m args below meth c K hX
    have dq := @tat _ _ dt_X7_farthestOf
    rw [p_X7_farthestOf_L7] at h
    refine a_iload K (dq 6 rfl) rfl ?_
    refine a_aload_n K (dq 7 rfl) rfl rfl ?_
    refine a_get K (T := 20) (i := 0) (k := 0) (v := .ref (ρ 21 0)) v_20 rfl rfl in_X7 (Nat.le_of_ble_eq_true rfl) fl_X7_7 rfl (dq 8 rfl) ?_
    refine a_iconst K (dq 9 rfl) (v := 0) rfl ?_
    refine a_ialdK K (T := 21) (i := 0) (nj := 0) v_21 rfl rfl (ib_in rfl) rfl (dq 10 rfl) ?_
    refine a_icmp_ge K (tgt := 62) (dq 11 rfl) rfl (fun c1 => ?_) (fun c1 => ?_)
    · have h := ite_t c1 h
      refine a_iload_n K (dq 34 rfl) rfl rfl ?_
      obtain rfl := Option.some.inj h
      exact a_iret K rfl rfl (dq 35 rfl) (Nat.le_of_ble_eq_true rfl) (Nat.le_of_ble_eq_true rfl) rfl rfl
    · have h := ite_f c1 h
      refine a_aload_n K (dq 12 rfl) rfl rfl ?_
      refine a_iload K (dq 13 rfl) rfl ?_
      refine a_iload_n K (dq 14 rfl) rfl rfl ?_
      obtain ⟨r2, h2, h⟩ := bnd h
      refine a_callVi K (s_X7_areJoined S v4 v1  σ r2 h2) v_20 rfl rfl cw_X7_areJoined ml_X7_76 (by decide) rfl (rest := []) rfl (Nat.le_of_ble_eq_true rfl) (dq 15 rfl) (by decide) ?_
      refine a_if_eq K (tgt := 38) (dq 16 rfl) rfl (fun c3 => ?_) (fun c3 => ?_)
      · have h := ite_t c3 h
        refine a_iconst K (dq 22 rfl) (v := 0) rfl ?_
        refine a_istore K (dq 23 rfl) (Nat.le_of_ble_eq_true rfl) (ls' := [some (.ref (ρ 20 0)), some (.int v1), some (.int v2), some (.int v3), some (.int v4), some (.int 0)]) rfl ?_
        refine a_iload K (dq 24 rfl) rfl ?_
        refine a_iload_n K (dq 25 rfl) rfl rfl ?_
        refine a_icmp_gt K (tgt := 50) (dq 26 rfl) rfl (fun c4 => ?_) (fun c4 => ?_)
        · have h := ite_t c4 h
          refine a_iload K (dq 28 rfl) rfl ?_
          refine a_istore_n K (dq 29 rfl) rfl (Nat.le_of_ble_eq_true rfl) (ls' := [some (.ref (ρ 20 0)), some (.int v1), some (.int v2), some (.int 0), some (.int v4), some (.int 0)]) rfl ?_
          refine a_iload K (dq 30 rfl) rfl ?_
          refine a_istore_n K (dq 31 rfl) rfl (Nat.le_of_ble_eq_true rfl) (ls' := [some (.ref (ρ 20 0)), some (.int v1), some (.int v4), some (.int 0), some (.int v4), some (.int 0)]) rfl ?_
          refine a_iinc K (dq 32 rfl) rfl (v := (v4 + 1)) rfl (Nat.le_of_ble_eq_true rfl) (ls' := [some (.ref (ρ 20 0)), some (.int v1), some (.int v4), some (.int 0), some (.int (v4 + 1)), some (.int 0)]) rfl ?_
          refine a_goto K (tgt := 7) (dq 33 rfl) rfl ?_
          refine a_le2 (ls' := [some (.ref (ρ 20 0)), some (.int v1), some (.int v4), some (.int 0), some (.int (v4 + 1)), none]) ⟨rfl, rfl, rfl, rfl, rfl, trivial⟩ ?_
          exact ih v1 v4 0 (v4 + 1) σ r h K hX
        · have h := ite_f c4 h
          refine a_goto K (tgt := 56) (dq 27 rfl) rfl ?_
          refine a_iinc K (dq 32 rfl) rfl (v := (v4 + 1)) rfl (Nat.le_of_ble_eq_true rfl) (ls' := [some (.ref (ρ 20 0)), some (.int v1), some (.int v2), some (.int v3), some (.int (v4 + 1)), some (.int 0)]) rfl ?_
          refine a_goto K (tgt := 7) (dq 33 rfl) rfl ?_
          refine a_le2 (ls' := [some (.ref (ρ 20 0)), some (.int v1), some (.int v2), some (.int v3), some (.int (v4 + 1)), none]) ⟨rfl, rfl, rfl, rfl, rfl, trivial⟩ ?_
          exact ih v1 v2 v3 (v4 + 1) σ r h K hX
      · have h := ite_f c3 h
        refine a_aload_n K (dq 17 rfl) rfl rfl ?_
        refine a_iload_n K (dq 18 rfl) rfl rfl ?_
        refine a_iload K (dq 19 rfl) rfl ?_
        obtain ⟨r5, h5, h⟩ := bnd h
        refine a_callVi K (s_X7_tracks S v1 v4  σ r5 h5) v_20 rfl rfl cw_X7_tracks ml_X7_161 (by decide) rfl (rest := []) rfl (Nat.le_of_ble_eq_true rfl) (dq 20 rfl) (by decide) ?_
        refine a_goto K (tgt := 39) (dq 21 rfl) rfl ?_
        refine a_istore K (dq 23 rfl) (Nat.le_of_ble_eq_true rfl) (ls' := [some (.ref (ρ 20 0)), some (.int v1), some (.int v2), some (.int v3), some (.int v4), some (.int r5.1)]) rfl ?_
        refine a_iload K (dq 24 rfl) rfl ?_
        refine a_iload_n K (dq 25 rfl) rfl rfl ?_
        refine a_icmp_gt K (tgt := 50) (dq 26 rfl) rfl (fun c6 => ?_) (fun c6 => ?_)
        · have h := ite_t c6 h
          refine a_iload K (dq 28 rfl) rfl ?_
          refine a_istore_n K (dq 29 rfl) rfl (Nat.le_of_ble_eq_true rfl) (ls' := [some (.ref (ρ 20 0)), some (.int v1), some (.int v2), some (.int r5.1), some (.int v4), some (.int r5.1)]) rfl ?_
          refine a_iload K (dq 30 rfl) rfl ?_
          refine a_istore_n K (dq 31 rfl) rfl (Nat.le_of_ble_eq_true rfl) (ls' := [some (.ref (ρ 20 0)), some (.int v1), some (.int v4), some (.int r5.1), some (.int v4), some (.int r5.1)]) rfl ?_
          refine a_iinc K (dq 32 rfl) rfl (v := (v4 + 1)) rfl (Nat.le_of_ble_eq_true rfl) (ls' := [some (.ref (ρ 20 0)), some (.int v1), some (.int v4), some (.int r5.1), some (.int (v4 + 1)), some (.int r5.1)]) rfl ?_
          refine a_goto K (tgt := 7) (dq 33 rfl) rfl ?_
          refine a_le2 (ls' := [some (.ref (ρ 20 0)), some (.int v1), some (.int v4), some (.int r5.1), some (.int (v4 + 1)), none]) ⟨rfl, rfl, rfl, rfl, rfl, trivial⟩ ?_
          exact ih v1 v4 r5.1 (v4 + 1) r5.2 r h K hX
        · have h := ite_f c6 h
          refine a_goto K (tgt := 56) (dq 27 rfl) rfl ?_
          refine a_iinc K (dq 32 rfl) rfl (v := (v4 + 1)) rfl (Nat.le_of_ble_eq_true rfl) (ls' := [some (.ref (ρ 20 0)), some (.int v1), some (.int v2), some (.int v3), some (.int (v4 + 1)), some (.int r5.1)]) rfl ?_
          refine a_goto K (tgt := 7) (dq 33 rfl) rfl ?_
          refine a_le2 (ls' := [some (.ref (ρ 20 0)), some (.int v1), some (.int v2), some (.int v3), some (.int (v4 + 1)), none]) ⟨rfl, rfl, rfl, rfl, rfl, trivial⟩ ?_
          exact ih v1 v2 v3 (v4 + 1) r5.2 r h K hX
set_option maxRecDepth 20000 in
set_option maxHeartbeats 1000000 in
theorem s_X7_farthestOf {l : Launch} {D : va_G} {ty : Nat → ClassId} {ρ : Nat → Nat → Nat} {N0 : Nat} (S : St l ty ρ N0) (a1 : Int32)  (σ : Sg) (r : (Int32 × Sg)) (h : p_X7_farthestOf a1 σ = some r) : AMet l D ty ρ N0 yX7_farthestOf (Cond.code yX7_farthestOf cX7_farthestOf 6 (some .int) :: GW) (rmk 6 0 0) [.ref (ρ 20 0), .int a1] σ (oI r.1) r.2 := by
  refine am_enter S (by decide) rfl rfl (Nat.le_of_ble_eq_true rfl) ?_
  intro p e s m args below meth c K hX
  have dq := @tat _ _ dt_X7_farthestOf
  unfold p_X7_farthestOf at h
  show WA p l e _ s m args below meth c D ty ρ N0 6 _ 0 [some (.ref (ρ 20 0)), some (.int a1), none, none, none, none] [] σ 0 0
  refine a_iload_n K (dq 0 rfl) rfl rfl ?_
  refine a_istore_n K (dq 1 rfl) rfl (Nat.le_of_ble_eq_true rfl) (ls' := [some (.ref (ρ 20 0)), some (.int a1), some (.int a1), none, none, none]) rfl ?_
  refine a_iconst K (dq 2 rfl) (v := 0) rfl ?_
  refine a_istore_n K (dq 3 rfl) rfl (Nat.le_of_ble_eq_true rfl) (ls' := [some (.ref (ρ 20 0)), some (.int a1), some (.int a1), some (.int 0), none, none]) rfl ?_
  refine a_iconst K (dq 4 rfl) (v := 0) rfl ?_
  refine a_istore K (dq 5 rfl) (Nat.le_of_ble_eq_true rfl) (ls' := [some (.ref (ρ 20 0)), some (.int a1), some (.int a1), some (.int 0), some (.int 0), none]) rfl ?_
  exact s_X7_farthestOf_L7 S    400 a1 a1 0 0 σ r h K hX
def t_X7_longest : List (Nat × Instr × Nat) := [(0, .aload_n 0, 1), (1, .aload_n 0, 1), (2, .iload_n 1, 1), (3, .invokevirtual 103, 3), (6, .ifCond .eq 7, 3), (9, .iconst 0, 1), (10, .goto 4, 3), (13, .iconst 1, 1), (14, .invokevirtual 146, 3), (17, .ifCond .eq 5, 3), (20, .iconst 0, 1), (21, .ireturn, 1), (22, .aload_n 0, 1), (23, .iload_n 1, 1), (24, .invokevirtual 164, 3), (27, .istore_n 2, 1), (28, .aload_n 0, 1), (29, .iload_n 2, 1), (30, .aload_n 0, 1), (31, .iload_n 2, 1), (32, .invokevirtual 164, 3), (35, .invokevirtual 161, 3), (38, .ireturn, 1)]
theorem dt_X7_longest : tblOK cX7_longest t_X7_longest = true := by decide +kernel
def p_X7_longest (a1 : Int32) (σ : Sg) : Option (Int32 × Sg) :=
  (p_X7_isFarm a1 σ).bind fun r1 => if r1 = 0 then ((p_X7_fails 1 σ).bind fun r3 => if r3.1 = 0 then ((p_X7_farthestOf a1 r3.2).bind fun r5 => (p_X7_farthestOf r5.1 r5.2).bind fun r6 => (p_X7_tracks r5.1 r6.1 r6.2).bind fun r7 => some (r7.1, r7.2)) else (some (0, r3.2))) else ((p_X7_fails 0 σ).bind fun r8 => if r8.1 = 0 then ((p_X7_farthestOf a1 r8.2).bind fun r10 => (p_X7_farthestOf r10.1 r10.2).bind fun r11 => (p_X7_tracks r10.1 r11.1 r11.2).bind fun r12 => some (r12.1, r12.2)) else (some (0, r8.2)))
set_option maxRecDepth 20000 in
set_option maxHeartbeats 1000000 in
theorem s_X7_longest {l : Launch} {D : va_G} {ty : Nat → ClassId} {ρ : Nat → Nat → Nat} {N0 : Nat} (S : St l ty ρ N0) (a1 : Int32)  (σ : Sg) (r : (Int32 × Sg)) (h : p_X7_longest a1 σ = some r) : AMet l D ty ρ N0 yX7_longest (Cond.code yX7_longest cX7_longest 3 (some .int) :: GW) (rmk 7 0 0) [.ref (ρ 20 0), .int a1] σ (oI r.1) r.2 := by
  refine am_enter S (by decide) rfl rfl (Nat.le_of_ble_eq_true rfl) ?_
  intro p e s m args below meth c K hX
  have dq := @tat _ _ dt_X7_longest
  unfold p_X7_longest at h
  show WA p l e _ s m args below meth c D ty ρ N0 3 _ 0 [some (.ref (ρ 20 0)), some (.int a1), none] [] σ 0 0
  refine a_aload_n K (dq 0 rfl) rfl rfl ?_
  refine a_aload_n K (dq 1 rfl) rfl rfl ?_
  refine a_iload_n K (dq 2 rfl) rfl rfl ?_
  obtain ⟨r1, h1, h⟩ := bnd h
  refine a_callVi K (s_X7_isFarm S a1  σ r1 h1) v_20 rfl rfl cw_X7_isFarm ml_X7_103 (by decide) rfl (rest := [.ref (ρ 20 0)]) rfl (Nat.le_of_ble_eq_true rfl) (dq 3 rfl) (by decide) ?_
  refine a_if_eq K (tgt := 13) (dq 4 rfl) rfl (fun c2 => ?_) (fun c2 => ?_)
  · have h := ite_t c2 h
    refine a_iconst K (dq 7 rfl) (v := 1) rfl ?_
    obtain ⟨r3, h3, h⟩ := bnd h
    refine a_callVi K (s_X7_fails S 1  σ r3 h3) v_20 rfl rfl cw_X7_fails ml_X7_146 (by decide) rfl (rest := []) rfl (Nat.le_of_ble_eq_true rfl) (dq 8 rfl) (by decide) ?_
    refine a_if_eq K (tgt := 22) (dq 9 rfl) rfl (fun c4 => ?_) (fun c4 => ?_)
    · have h := ite_t c4 h
      refine a_aload_n K (dq 12 rfl) rfl rfl ?_
      refine a_iload_n K (dq 13 rfl) rfl rfl ?_
      obtain ⟨r5, h5, h⟩ := bnd h
      refine a_callVi K (s_X7_farthestOf S a1  r3.2 r5 h5) v_20 rfl rfl cw_X7_farthestOf ml_X7_164 (by decide) rfl (rest := []) rfl (Nat.le_of_ble_eq_true rfl) (dq 14 rfl) (by decide) ?_
      refine a_istore_n K (dq 15 rfl) rfl (Nat.le_of_ble_eq_true rfl) (ls' := [some (.ref (ρ 20 0)), some (.int a1), some (.int r5.1)]) rfl ?_
      refine a_aload_n K (dq 16 rfl) rfl rfl ?_
      refine a_iload_n K (dq 17 rfl) rfl rfl ?_
      refine a_aload_n K (dq 18 rfl) rfl rfl ?_
      refine a_iload_n K (dq 19 rfl) rfl rfl ?_
      obtain ⟨r6, h6, h⟩ := bnd h
      refine a_callVi K (s_X7_farthestOf S r5.1  r5.2 r6 h6) v_20 rfl rfl cw_X7_farthestOf ml_X7_164 (by decide) rfl (rest := [.int r5.1, .ref (ρ 20 0)]) rfl (Nat.le_of_ble_eq_true rfl) (dq 20 rfl) (by decide) ?_
      obtain ⟨r7, h7, h⟩ := bnd h
      refine a_callVi K (s_X7_tracks S r5.1 r6.1  r6.2 r7 h7) v_20 rfl rfl cw_X7_tracks ml_X7_161 (by decide) rfl (rest := []) rfl (Nat.le_of_ble_eq_true rfl) (dq 21 rfl) (by decide) ?_
      obtain rfl := Option.some.inj h
      exact a_iret K rfl rfl (dq 22 rfl) (Nat.le_of_ble_eq_true rfl) (Nat.le_of_ble_eq_true rfl) rfl rfl
    · have h := ite_f c4 h
      refine a_iconst K (dq 10 rfl) (v := 0) rfl ?_
      obtain rfl := Option.some.inj h
      exact a_iret K rfl rfl (dq 11 rfl) (Nat.le_of_ble_eq_true rfl) (Nat.le_of_ble_eq_true rfl) rfl rfl
  · have h := ite_f c2 h
    refine a_iconst K (dq 5 rfl) (v := 0) rfl ?_
    refine a_goto K (tgt := 14) (dq 6 rfl) rfl ?_
    obtain ⟨r8, h8, h⟩ := bnd h
    refine a_callVi K (s_X7_fails S 0  σ r8 h8) v_20 rfl rfl cw_X7_fails ml_X7_146 (by decide) rfl (rest := []) rfl (Nat.le_of_ble_eq_true rfl) (dq 8 rfl) (by decide) ?_
    refine a_if_eq K (tgt := 22) (dq 9 rfl) rfl (fun c9 => ?_) (fun c9 => ?_)
    · have h := ite_t c9 h
      refine a_aload_n K (dq 12 rfl) rfl rfl ?_
      refine a_iload_n K (dq 13 rfl) rfl rfl ?_
      obtain ⟨r10, h10, h⟩ := bnd h
      refine a_callVi K (s_X7_farthestOf S a1  r8.2 r10 h10) v_20 rfl rfl cw_X7_farthestOf ml_X7_164 (by decide) rfl (rest := []) rfl (Nat.le_of_ble_eq_true rfl) (dq 14 rfl) (by decide) ?_
      refine a_istore_n K (dq 15 rfl) rfl (Nat.le_of_ble_eq_true rfl) (ls' := [some (.ref (ρ 20 0)), some (.int a1), some (.int r10.1)]) rfl ?_
      refine a_aload_n K (dq 16 rfl) rfl rfl ?_
      refine a_iload_n K (dq 17 rfl) rfl rfl ?_
      refine a_aload_n K (dq 18 rfl) rfl rfl ?_
      refine a_iload_n K (dq 19 rfl) rfl rfl ?_
      obtain ⟨r11, h11, h⟩ := bnd h
      refine a_callVi K (s_X7_farthestOf S r10.1  r10.2 r11 h11) v_20 rfl rfl cw_X7_farthestOf ml_X7_164 (by decide) rfl (rest := [.int r10.1, .ref (ρ 20 0)]) rfl (Nat.le_of_ble_eq_true rfl) (dq 20 rfl) (by decide) ?_
      obtain ⟨r12, h12, h⟩ := bnd h
      refine a_callVi K (s_X7_tracks S r10.1 r11.1  r11.2 r12 h12) v_20 rfl rfl cw_X7_tracks ml_X7_161 (by decide) rfl (rest := []) rfl (Nat.le_of_ble_eq_true rfl) (dq 21 rfl) (by decide) ?_
      obtain rfl := Option.some.inj h
      exact a_iret K rfl rfl (dq 22 rfl) (Nat.le_of_ble_eq_true rfl) (Nat.le_of_ble_eq_true rfl) rfl rfl
    · have h := ite_f c9 h
      refine a_iconst K (dq 10 rfl) (v := 0) rfl ?_
      obtain rfl := Option.some.inj h
      exact a_iret K rfl rfl (dq 11 rfl) (Nat.le_of_ble_eq_true rfl) (Nat.le_of_ble_eq_true rfl) rfl rfl
def t_X7_carries : List (Nat × Instr × Nat) := [(0, .aload_n 0, 1), (1, .getfield 36, 3), (4, .iload_n 1, 1), (5, .iaload, 1), (6, .tableswitch 196 99 116 #[120, 196, 154, 86, 196, 196, 196, 196, 196, 99, 196, 196, 196, 196, 196, 141, 196, 167], 86), (92, .aload_n 0, 1), (93, .aload_n 0, 1), (94, .getfield 36, 3), (97, .iload_n 1, 1), (98, .iconst 1, 1), (99, .iadd, 1), (100, .iaload, 1), (101, .invokevirtual 199, 3), (104, .ireturn, 1), (105, .aload_n 0, 1), (106, .aload_n 0, 1), (107, .getfield 36, 3), (110, .iload_n 1, 1), (111, .iconst 1, 1), (112, .iadd, 1), (113, .iaload, 1), (114, .aload_n 0, 1), (115, .getfield 36, 3), (118, .iload_n 1, 1), (119, .iconst 2, 1), (120, .iadd, 1), (121, .iaload, 1), (122, .invokevirtual 202, 3), (125, .ireturn, 1), (126, .aload_n 0, 1), (127, .aload_n 0, 1), (128, .getfield 36, 3), (131, .iload_n 1, 1), (132, .iconst 1, 1), (133, .iadd, 1), (134, .iaload, 1), (135, .aload_n 0, 1), (136, .getfield 36, 3), (139, .iload_n 1, 1), (140, .iconst 2, 1), (141, .iadd, 1), (142, .iaload, 1), (143, .invokevirtual 205, 3), (146, .ireturn, 1), (147, .aload_n 0, 1), (148, .aload_n 0, 1), (149, .getfield 36, 3), (152, .iload_n 1, 1), (153, .iconst 1, 1), (154, .iadd, 1), (155, .iaload, 1), (156, .invokevirtual 208, 3), (159, .ireturn, 1), (160, .aload_n 0, 1), (161, .aload_n 0, 1), (162, .getfield 36, 3), (165, .iload_n 1, 1), (166, .iconst 1, 1), (167, .iadd, 1), (168, .iaload, 1), (169, .invokevirtual 211, 3), (172, .ireturn, 1), (173, .aload_n 0, 1), (174, .aload_n 0, 1), (175, .getfield 36, 3), (178, .iload_n 1, 1), (179, .iconst 1, 1), (180, .iadd, 1), (181, .iaload, 1), (182, .aload_n 0, 1), (183, .getfield 36, 3), (186, .iload_n 1, 1), (187, .iconst 2, 1), (188, .iadd, 1), (189, .iaload, 1), (190, .aload_n 0, 1), (191, .getfield 36, 3), (194, .iload_n 1, 1), (195, .iconst 3, 1), (196, .iadd, 1), (197, .iaload, 1), (198, .invokevirtual 214, 3), (201, .ireturn, 1), (202, .aload_n 0, 1), (203, .aload_n 0, 1), (204, .getfield 36, 3), (207, .iload_n 1, 1), (208, .iconst 1, 1), (209, .iadd, 1), (210, .iaload, 1), (211, .aload_n 0, 1), (212, .getfield 36, 3), (215, .iload_n 1, 1), (216, .iconst 2, 1), (217, .iadd, 1), (218, .iaload, 1), (219, .invokevirtual 218, 3), (222, .ireturn, 1)]
theorem dt_X7_carries : tblOK cX7_carries t_X7_carries = true := by decide +kernel
def p_X7_carries (a1 : Int32) (σ : Sg) : Option (Int32 × Sg) :=
  if ib a1 124 then (if (gA σ 28 0 a1.toNatClampNeg) = 99 then (if ib (a1 + 1) 124 then (if ib (a1 + 2) 124 then ((p_X7_giveUp (gA σ 28 0 (a1 + 1).toNatClampNeg) (gA σ 28 0 (a1 + 2).toNatClampNeg) σ).bind fun r5 => some (r5.1, r5.2)) else none) else none) else (if (gA σ 28 0 a1.toNatClampNeg) = 101 then (if ib (a1 + 1) 124 then ((p_X7_expose (gA σ 28 0 (a1 + 1).toNatClampNeg) σ).bind fun r8 => some (r8.1, r8.2)) else none) else (if (gA σ 28 0 a1.toNatClampNeg) = 102 then (if ib (a1 + 1) 124 then ((p_X7_farm (gA σ 28 0 (a1 + 1).toNatClampNeg) σ).bind fun r11 => some (r11.1, r11.2)) else none) else (if (gA σ 28 0 a1.toNatClampNeg) = 108 then (if ib (a1 + 1) 124 then (if ib (a1 + 2) 124 then ((p_X7_lay (gA σ 28 0 (a1 + 1).toNatClampNeg) (gA σ 28 0 (a1 + 2).toNatClampNeg) σ).bind fun r15 => some (r15.1, r15.2)) else none) else none) else (if (gA σ 28 0 a1.toNatClampNeg) = 114 then (if ib (a1 + 1) 124 then ((p_X7_root (gA σ 28 0 (a1 + 1).toNatClampNeg) σ).bind fun r18 => some (r18.1, r18.2)) else none) else (if (gA σ 28 0 a1.toNatClampNeg) = 116 then (if ib (a1 + 1) 124 then (if ib (a1 + 2) 124 then (if ib (a1 + 3) 124 then ((p_X7_charge (gA σ 28 0 (a1 + 1).toNatClampNeg) (gA σ 28 0 (a1 + 2).toNatClampNeg) (gA σ 28 0 (a1 + 3).toNatClampNeg) σ).bind fun r23 => some (r23.1, r23.2)) else none) else none) else none) else (if ib (a1 + 1) 124 then (if ib (a1 + 2) 124 then ((p_X7_drive (gA σ 28 0 (a1 + 1).toNatClampNeg) (gA σ 28 0 (a1 + 2).toNatClampNeg) σ).bind fun r26 => some (r26.1, r26.2)) else none) else none))))))) else none
set_option maxRecDepth 20000 in
set_option maxHeartbeats 1000000 in
theorem s_X7_carries {l : Launch} {D : va_G} {ty : Nat → ClassId} {ρ : Nat → Nat → Nat} {N0 : Nat} (S : St l ty ρ N0) (a1 : Int32)  (σ : Sg) (r : (Int32 × Sg)) (h : p_X7_carries a1 σ = some r) : AMet l D ty ρ N0 yX7_carries (Cond.code yX7_carries cX7_carries 2 (some .int) :: GW) (rmk 6 0 0) [.ref (ρ 20 0), .int a1] σ (oI r.1) r.2 := by
  refine am_enter S (by decide) rfl rfl (Nat.le_of_ble_eq_true rfl) ?_
  intro p e s m args below meth c K hX
  have dq := @tat _ _ dt_X7_carries
  unfold p_X7_carries at h
  show WA p l e _ s m args below meth c D ty ρ N0 2 _ 0 [some (.ref (ρ 20 0)), some (.int a1)] [] σ 0 0
  refine a_aload_n K (dq 0 rfl) rfl rfl ?_
  refine a_get K (T := 20) (i := 0) (k := 20) (v := .ref (ρ 28 0)) v_20 rfl rfl in_X7 (Nat.le_of_ble_eq_true rfl) fl_X7_36 rfl (dq 1 rfl) ?_
  refine a_iload_n K (dq 2 rfl) rfl rfl ?_
  obtain ⟨c1, h⟩ := ib_some h
  refine a_iald K (T := 28) (i := 0) v_28 rfl rfl c1 (dq 3 rfl) ?_
  by_cases c2 : (gA σ 28 0 a1.toNatClampNeg) = 99
  · have h := ite_t c2 h
    refine a_tableIn K (off := 120) (tgt := 126) (dq 4 rfl) (by rw [c2]; decide) (by rw [c2]; decide) (by rw [c2]; rfl) rfl ?_
    refine a_aload_n K (dq 29 rfl) rfl rfl ?_
    refine a_aload_n K (dq 30 rfl) rfl rfl ?_
    refine a_get K (T := 20) (i := 0) (k := 20) (v := .ref (ρ 28 0)) v_20 rfl rfl in_X7 (Nat.le_of_ble_eq_true rfl) fl_X7_36 rfl (dq 31 rfl) ?_
    refine a_iload_n K (dq 32 rfl) rfl rfl ?_
    refine a_iconst K (dq 33 rfl) (v := 1) rfl ?_
    refine a_iadd K (dq 34 rfl) ?_
    obtain ⟨c3, h⟩ := ib_some h
    refine a_iald K (T := 28) (i := 0) v_28 rfl rfl c3 (dq 35 rfl) ?_
    refine a_aload_n K (dq 36 rfl) rfl rfl ?_
    refine a_get K (T := 20) (i := 0) (k := 20) (v := .ref (ρ 28 0)) v_20 rfl rfl in_X7 (Nat.le_of_ble_eq_true rfl) fl_X7_36 rfl (dq 37 rfl) ?_
    refine a_iload_n K (dq 38 rfl) rfl rfl ?_
    refine a_iconst K (dq 39 rfl) (v := 2) rfl ?_
    refine a_iadd K (dq 40 rfl) ?_
    obtain ⟨c4, h⟩ := ib_some h
    refine a_iald K (T := 28) (i := 0) v_28 rfl rfl c4 (dq 41 rfl) ?_
    obtain ⟨r5, h5, h⟩ := bnd h
    refine a_callVi K (s_X7_giveUp S (gA σ 28 0 (a1 + 1).toNatClampNeg) (gA σ 28 0 (a1 + 2).toNatClampNeg)  σ r5 h5) v_20 rfl rfl cw_X7_giveUp ml_X7_205 (by decide) rfl (rest := []) rfl (Nat.le_of_ble_eq_true rfl) (dq 42 rfl) (by decide) ?_
    obtain rfl := Option.some.inj h
    exact a_iret K rfl rfl (dq 43 rfl) (Nat.le_of_ble_eq_true rfl) (Nat.le_of_ble_eq_true rfl) rfl rfl
  · have h := ite_f c2 h
    by_cases c6 : (gA σ 28 0 a1.toNatClampNeg) = 101
    · have h := ite_t c6 h
      refine a_tableIn K (off := 154) (tgt := 160) (dq 4 rfl) (by rw [c6]; decide) (by rw [c6]; decide) (by rw [c6]; rfl) rfl ?_
      refine a_aload_n K (dq 53 rfl) rfl rfl ?_
      refine a_aload_n K (dq 54 rfl) rfl rfl ?_
      refine a_get K (T := 20) (i := 0) (k := 20) (v := .ref (ρ 28 0)) v_20 rfl rfl in_X7 (Nat.le_of_ble_eq_true rfl) fl_X7_36 rfl (dq 55 rfl) ?_
      refine a_iload_n K (dq 56 rfl) rfl rfl ?_
      refine a_iconst K (dq 57 rfl) (v := 1) rfl ?_
      refine a_iadd K (dq 58 rfl) ?_
      obtain ⟨c7, h⟩ := ib_some h
      refine a_iald K (T := 28) (i := 0) v_28 rfl rfl c7 (dq 59 rfl) ?_
      obtain ⟨r8, h8, h⟩ := bnd h
      refine a_callVi K (s_X7_expose S (gA σ 28 0 (a1 + 1).toNatClampNeg)  σ r8 h8) v_20 rfl rfl cw_X7_expose ml_X7_211 (by decide) rfl (rest := []) rfl (Nat.le_of_ble_eq_true rfl) (dq 60 rfl) (by decide) ?_
      obtain rfl := Option.some.inj h
      exact a_iret K rfl rfl (dq 61 rfl) (Nat.le_of_ble_eq_true rfl) (Nat.le_of_ble_eq_true rfl) rfl rfl
    · have h := ite_f c6 h
      by_cases c9 : (gA σ 28 0 a1.toNatClampNeg) = 102
      · have h := ite_t c9 h
        refine a_tableIn K (off := 86) (tgt := 92) (dq 4 rfl) (by rw [c9]; decide) (by rw [c9]; decide) (by rw [c9]; rfl) rfl ?_
        refine a_aload_n K (dq 5 rfl) rfl rfl ?_
        refine a_aload_n K (dq 6 rfl) rfl rfl ?_
        refine a_get K (T := 20) (i := 0) (k := 20) (v := .ref (ρ 28 0)) v_20 rfl rfl in_X7 (Nat.le_of_ble_eq_true rfl) fl_X7_36 rfl (dq 7 rfl) ?_
        refine a_iload_n K (dq 8 rfl) rfl rfl ?_
        refine a_iconst K (dq 9 rfl) (v := 1) rfl ?_
        refine a_iadd K (dq 10 rfl) ?_
        obtain ⟨c10, h⟩ := ib_some h
        refine a_iald K (T := 28) (i := 0) v_28 rfl rfl c10 (dq 11 rfl) ?_
        obtain ⟨r11, h11, h⟩ := bnd h
        refine a_callVi K (s_X7_farm S (gA σ 28 0 (a1 + 1).toNatClampNeg)  σ r11 h11) v_20 rfl rfl cw_X7_farm ml_X7_199 (by decide) rfl (rest := []) rfl (Nat.le_of_ble_eq_true rfl) (dq 12 rfl) (by decide) ?_
        obtain rfl := Option.some.inj h
        exact a_iret K rfl rfl (dq 13 rfl) (Nat.le_of_ble_eq_true rfl) (Nat.le_of_ble_eq_true rfl) rfl rfl
      · have h := ite_f c9 h
        by_cases c12 : (gA σ 28 0 a1.toNatClampNeg) = 108
        · have h := ite_t c12 h
          refine a_tableIn K (off := 99) (tgt := 105) (dq 4 rfl) (by rw [c12]; decide) (by rw [c12]; decide) (by rw [c12]; rfl) rfl ?_
          refine a_aload_n K (dq 14 rfl) rfl rfl ?_
          refine a_aload_n K (dq 15 rfl) rfl rfl ?_
          refine a_get K (T := 20) (i := 0) (k := 20) (v := .ref (ρ 28 0)) v_20 rfl rfl in_X7 (Nat.le_of_ble_eq_true rfl) fl_X7_36 rfl (dq 16 rfl) ?_
          refine a_iload_n K (dq 17 rfl) rfl rfl ?_
          refine a_iconst K (dq 18 rfl) (v := 1) rfl ?_
          refine a_iadd K (dq 19 rfl) ?_
          obtain ⟨c13, h⟩ := ib_some h
          refine a_iald K (T := 28) (i := 0) v_28 rfl rfl c13 (dq 20 rfl) ?_
          refine a_aload_n K (dq 21 rfl) rfl rfl ?_
          refine a_get K (T := 20) (i := 0) (k := 20) (v := .ref (ρ 28 0)) v_20 rfl rfl in_X7 (Nat.le_of_ble_eq_true rfl) fl_X7_36 rfl (dq 22 rfl) ?_
          refine a_iload_n K (dq 23 rfl) rfl rfl ?_
          refine a_iconst K (dq 24 rfl) (v := 2) rfl ?_
          refine a_iadd K (dq 25 rfl) ?_
          obtain ⟨c14, h⟩ := ib_some h
          refine a_iald K (T := 28) (i := 0) v_28 rfl rfl c14 (dq 26 rfl) ?_
          obtain ⟨r15, h15, h⟩ := bnd h
          refine a_callVi K (s_X7_lay S (gA σ 28 0 (a1 + 1).toNatClampNeg) (gA σ 28 0 (a1 + 2).toNatClampNeg)  σ r15 h15) v_20 rfl rfl cw_X7_lay ml_X7_202 (by decide) rfl (rest := []) rfl (Nat.le_of_ble_eq_true rfl) (dq 27 rfl) (by decide) ?_
          obtain rfl := Option.some.inj h
          exact a_iret K rfl rfl (dq 28 rfl) (Nat.le_of_ble_eq_true rfl) (Nat.le_of_ble_eq_true rfl) rfl rfl
        · have h := ite_f c12 h
          by_cases c16 : (gA σ 28 0 a1.toNatClampNeg) = 114
          · have h := ite_t c16 h
            refine a_tableIn K (off := 141) (tgt := 147) (dq 4 rfl) (by rw [c16]; decide) (by rw [c16]; decide) (by rw [c16]; rfl) rfl ?_
            refine a_aload_n K (dq 44 rfl) rfl rfl ?_
            refine a_aload_n K (dq 45 rfl) rfl rfl ?_
            refine a_get K (T := 20) (i := 0) (k := 20) (v := .ref (ρ 28 0)) v_20 rfl rfl in_X7 (Nat.le_of_ble_eq_true rfl) fl_X7_36 rfl (dq 46 rfl) ?_
            refine a_iload_n K (dq 47 rfl) rfl rfl ?_
            refine a_iconst K (dq 48 rfl) (v := 1) rfl ?_
            refine a_iadd K (dq 49 rfl) ?_
            obtain ⟨c17, h⟩ := ib_some h
            refine a_iald K (T := 28) (i := 0) v_28 rfl rfl c17 (dq 50 rfl) ?_
            obtain ⟨r18, h18, h⟩ := bnd h
            refine a_callVi K (s_X7_root S (gA σ 28 0 (a1 + 1).toNatClampNeg)  σ r18 h18) v_20 rfl rfl cw_X7_root ml_X7_208 (by decide) rfl (rest := []) rfl (Nat.le_of_ble_eq_true rfl) (dq 51 rfl) (by decide) ?_
            obtain rfl := Option.some.inj h
            exact a_iret K rfl rfl (dq 52 rfl) (Nat.le_of_ble_eq_true rfl) (Nat.le_of_ble_eq_true rfl) rfl rfl
          · have h := ite_f c16 h
            by_cases c19 : (gA σ 28 0 a1.toNatClampNeg) = 116
            · have h := ite_t c19 h
              refine a_tableIn K (off := 167) (tgt := 173) (dq 4 rfl) (by rw [c19]; decide) (by rw [c19]; decide) (by rw [c19]; rfl) rfl ?_
              refine a_aload_n K (dq 62 rfl) rfl rfl ?_
              refine a_aload_n K (dq 63 rfl) rfl rfl ?_
              refine a_get K (T := 20) (i := 0) (k := 20) (v := .ref (ρ 28 0)) v_20 rfl rfl in_X7 (Nat.le_of_ble_eq_true rfl) fl_X7_36 rfl (dq 64 rfl) ?_
              refine a_iload_n K (dq 65 rfl) rfl rfl ?_
              refine a_iconst K (dq 66 rfl) (v := 1) rfl ?_
              refine a_iadd K (dq 67 rfl) ?_
              obtain ⟨c20, h⟩ := ib_some h
              refine a_iald K (T := 28) (i := 0) v_28 rfl rfl c20 (dq 68 rfl) ?_
              refine a_aload_n K (dq 69 rfl) rfl rfl ?_
              refine a_get K (T := 20) (i := 0) (k := 20) (v := .ref (ρ 28 0)) v_20 rfl rfl in_X7 (Nat.le_of_ble_eq_true rfl) fl_X7_36 rfl (dq 70 rfl) ?_
              refine a_iload_n K (dq 71 rfl) rfl rfl ?_
              refine a_iconst K (dq 72 rfl) (v := 2) rfl ?_
              refine a_iadd K (dq 73 rfl) ?_
              obtain ⟨c21, h⟩ := ib_some h
              refine a_iald K (T := 28) (i := 0) v_28 rfl rfl c21 (dq 74 rfl) ?_
              refine a_aload_n K (dq 75 rfl) rfl rfl ?_
              refine a_get K (T := 20) (i := 0) (k := 20) (v := .ref (ρ 28 0)) v_20 rfl rfl in_X7 (Nat.le_of_ble_eq_true rfl) fl_X7_36 rfl (dq 76 rfl) ?_
              refine a_iload_n K (dq 77 rfl) rfl rfl ?_
              refine a_iconst K (dq 78 rfl) (v := 3) rfl ?_
              refine a_iadd K (dq 79 rfl) ?_
              obtain ⟨c22, h⟩ := ib_some h
              refine a_iald K (T := 28) (i := 0) v_28 rfl rfl c22 (dq 80 rfl) ?_
              obtain ⟨r23, h23, h⟩ := bnd h
              refine a_callVi K (s_X7_charge S (gA σ 28 0 (a1 + 1).toNatClampNeg) (gA σ 28 0 (a1 + 2).toNatClampNeg) (gA σ 28 0 (a1 + 3).toNatClampNeg)  σ r23 h23) v_20 rfl rfl cw_X7_charge ml_X7_214 (by decide) rfl (rest := []) rfl (Nat.le_of_ble_eq_true rfl) (dq 81 rfl) (by decide) ?_
              obtain rfl := Option.some.inj h
              exact a_iret K rfl rfl (dq 82 rfl) (Nat.le_of_ble_eq_true rfl) (Nat.le_of_ble_eq_true rfl) rfl rfl
            · have h := ite_f c19 h
              refine a_tableD K (tgt := 202) (dq 4 rfl) ?_ rfl ?_
              · have := i32ne c2 (k := 99) (by decide); have := i32ne c6 (k := 101) (by decide); have := i32ne c9 (k := 102) (by decide); have := i32ne c12 (k := 108) (by decide); have := i32ne c16 (k := 114) (by decide); have := i32ne c19 (k := 116) (by decide)
                have hz : ((gA σ 28 0 a1.toNatClampNeg)).toInt < 99 ∨ 116 < ((gA σ 28 0 a1.toNatClampNeg)).toInt ∨ ((gA σ 28 0 a1.toNatClampNeg)).toInt = 100 ∨ ((gA σ 28 0 a1.toNatClampNeg)).toInt = 103 ∨ ((gA σ 28 0 a1.toNatClampNeg)).toInt = 104 ∨ ((gA σ 28 0 a1.toNatClampNeg)).toInt = 105 ∨ ((gA σ 28 0 a1.toNatClampNeg)).toInt = 106 ∨ ((gA σ 28 0 a1.toNatClampNeg)).toInt = 107 ∨ ((gA σ 28 0 a1.toNatClampNeg)).toInt = 109 ∨ ((gA σ 28 0 a1.toNatClampNeg)).toInt = 110 ∨ ((gA σ 28 0 a1.toNatClampNeg)).toInt = 111 ∨ ((gA σ 28 0 a1.toNatClampNeg)).toInt = 112 ∨ ((gA σ 28 0 a1.toNatClampNeg)).toInt = 113 ∨ ((gA σ 28 0 a1.toNatClampNeg)).toInt = 115 := by omega
                rcases hz with q | q | q | q | q | q | q | q | q | q | q | q | q | q
                · exact Or.inl q
                · exact Or.inr (Or.inl q)
                · rw [q]; exact Or.inr (Or.inr rfl)
                · rw [q]; exact Or.inr (Or.inr rfl)
                · rw [q]; exact Or.inr (Or.inr rfl)
                · rw [q]; exact Or.inr (Or.inr rfl)
                · rw [q]; exact Or.inr (Or.inr rfl)
                · rw [q]; exact Or.inr (Or.inr rfl)
                · rw [q]; exact Or.inr (Or.inr rfl)
                · rw [q]; exact Or.inr (Or.inr rfl)
                · rw [q]; exact Or.inr (Or.inr rfl)
                · rw [q]; exact Or.inr (Or.inr rfl)
                · rw [q]; exact Or.inr (Or.inr rfl)
                · rw [q]; exact Or.inr (Or.inr rfl)
              refine a_aload_n K (dq 83 rfl) rfl rfl ?_
              refine a_aload_n K (dq 84 rfl) rfl rfl ?_
              refine a_get K (T := 20) (i := 0) (k := 20) (v := .ref (ρ 28 0)) v_20 rfl rfl in_X7 (Nat.le_of_ble_eq_true rfl) fl_X7_36 rfl (dq 85 rfl) ?_
              refine a_iload_n K (dq 86 rfl) rfl rfl ?_
              refine a_iconst K (dq 87 rfl) (v := 1) rfl ?_
              refine a_iadd K (dq 88 rfl) ?_
              obtain ⟨c24, h⟩ := ib_some h
              refine a_iald K (T := 28) (i := 0) v_28 rfl rfl c24 (dq 89 rfl) ?_
              refine a_aload_n K (dq 90 rfl) rfl rfl ?_
              refine a_get K (T := 20) (i := 0) (k := 20) (v := .ref (ρ 28 0)) v_20 rfl rfl in_X7 (Nat.le_of_ble_eq_true rfl) fl_X7_36 rfl (dq 91 rfl) ?_
              refine a_iload_n K (dq 92 rfl) rfl rfl ?_
              refine a_iconst K (dq 93 rfl) (v := 2) rfl ?_
              refine a_iadd K (dq 94 rfl) ?_
              obtain ⟨c25, h⟩ := ib_some h
              refine a_iald K (T := 28) (i := 0) v_28 rfl rfl c25 (dq 95 rfl) ?_
              obtain ⟨r26, h26, h⟩ := bnd h
              refine a_callVi K (s_X7_drive S (gA σ 28 0 (a1 + 1).toNatClampNeg) (gA σ 28 0 (a1 + 2).toNatClampNeg)  σ r26 h26) v_20 rfl rfl cw_X7_drive ml_X7_218 (by decide) rfl (rest := []) rfl (Nat.le_of_ble_eq_true rfl) (dq 96 rfl) (by decide) ?_
              obtain rfl := Option.some.inj h
              exact a_iret K rfl rfl (dq 97 rfl) (Nat.le_of_ble_eq_true rfl) (Nat.le_of_ble_eq_true rfl) rfl rfl
def t_X7_farthest : List (Nat × Instr × Nat) := [(0, .aload_n 0, 1), (1, .aload_n 0, 1), (2, .iload_n 1, 1), (3, .invokevirtual 103, 3), (6, .ifCond .eq 7, 3), (9, .iconst 0, 1), (10, .goto 4, 3), (13, .iconst 1, 1), (14, .invokevirtual 146, 3), (17, .ifCond .eq 7, 3), (20, .iconst 0, 1), (21, .goto 8, 3), (24, .aload_n 0, 1), (25, .iload_n 1, 1), (26, .invokevirtual 164, 3), (29, .ireturn, 1)]
theorem dt_X7_farthest : tblOK cX7_farthest t_X7_farthest = true := by decide +kernel
def p_X7_farthest (a1 : Int32) (σ : Sg) : Option (Int32 × Sg) :=
  (p_X7_isFarm a1 σ).bind fun r1 => if r1 = 0 then ((p_X7_fails 1 σ).bind fun r3 => if r3.1 = 0 then ((p_X7_farthestOf a1 r3.2).bind fun r5 => some (r5.1, r5.2)) else (some (0, r3.2))) else ((p_X7_fails 0 σ).bind fun r6 => if r6.1 = 0 then ((p_X7_farthestOf a1 r6.2).bind fun r8 => some (r8.1, r8.2)) else (some (0, r6.2)))
set_option maxRecDepth 20000 in
set_option maxHeartbeats 1000000 in
theorem s_X7_farthest {l : Launch} {D : va_G} {ty : Nat → ClassId} {ρ : Nat → Nat → Nat} {N0 : Nat} (S : St l ty ρ N0) (a1 : Int32)  (σ : Sg) (r : (Int32 × Sg)) (h : p_X7_farthest a1 σ = some r) : AMet l D ty ρ N0 yX7_farthest (Cond.code yX7_farthest cX7_farthest 2 (some .int) :: GW) (rmk 7 0 0) [.ref (ρ 20 0), .int a1] σ (oI r.1) r.2 := by
  refine am_enter S (by decide) rfl rfl (Nat.le_of_ble_eq_true rfl) ?_
  intro p e s m args below meth c K hX
  have dq := @tat _ _ dt_X7_farthest
  unfold p_X7_farthest at h
  show WA p l e _ s m args below meth c D ty ρ N0 2 _ 0 [some (.ref (ρ 20 0)), some (.int a1)] [] σ 0 0
  refine a_aload_n K (dq 0 rfl) rfl rfl ?_
  refine a_aload_n K (dq 1 rfl) rfl rfl ?_
  refine a_iload_n K (dq 2 rfl) rfl rfl ?_
  obtain ⟨r1, h1, h⟩ := bnd h
  refine a_callVi K (s_X7_isFarm S a1  σ r1 h1) v_20 rfl rfl cw_X7_isFarm ml_X7_103 (by decide) rfl (rest := [.ref (ρ 20 0)]) rfl (Nat.le_of_ble_eq_true rfl) (dq 3 rfl) (by decide) ?_
  refine a_if_eq K (tgt := 13) (dq 4 rfl) rfl (fun c2 => ?_) (fun c2 => ?_)
  · have h := ite_t c2 h
    refine a_iconst K (dq 7 rfl) (v := 1) rfl ?_
    obtain ⟨r3, h3, h⟩ := bnd h
    refine a_callVi K (s_X7_fails S 1  σ r3 h3) v_20 rfl rfl cw_X7_fails ml_X7_146 (by decide) rfl (rest := []) rfl (Nat.le_of_ble_eq_true rfl) (dq 8 rfl) (by decide) ?_
    refine a_if_eq K (tgt := 24) (dq 9 rfl) rfl (fun c4 => ?_) (fun c4 => ?_)
    · have h := ite_t c4 h
      refine a_aload_n K (dq 12 rfl) rfl rfl ?_
      refine a_iload_n K (dq 13 rfl) rfl rfl ?_
      obtain ⟨r5, h5, h⟩ := bnd h
      refine a_callVi K (s_X7_farthestOf S a1  r3.2 r5 h5) v_20 rfl rfl cw_X7_farthestOf ml_X7_164 (by decide) rfl (rest := []) rfl (Nat.le_of_ble_eq_true rfl) (dq 14 rfl) (by decide) ?_
      obtain rfl := Option.some.inj h
      exact a_iret K rfl rfl (dq 15 rfl) (Nat.le_of_ble_eq_true rfl) (Nat.le_of_ble_eq_true rfl) rfl rfl
    · have h := ite_f c4 h
      refine a_iconst K (dq 10 rfl) (v := 0) rfl ?_
      refine a_goto K (tgt := 29) (dq 11 rfl) rfl ?_
      obtain rfl := Option.some.inj h
      exact a_iret K rfl rfl (dq 15 rfl) (Nat.le_of_ble_eq_true rfl) (Nat.le_of_ble_eq_true rfl) rfl rfl
  · have h := ite_f c2 h
    refine a_iconst K (dq 5 rfl) (v := 0) rfl ?_
    refine a_goto K (tgt := 14) (dq 6 rfl) rfl ?_
    obtain ⟨r6, h6, h⟩ := bnd h
    refine a_callVi K (s_X7_fails S 0  σ r6 h6) v_20 rfl rfl cw_X7_fails ml_X7_146 (by decide) rfl (rest := []) rfl (Nat.le_of_ble_eq_true rfl) (dq 8 rfl) (by decide) ?_
    refine a_if_eq K (tgt := 24) (dq 9 rfl) rfl (fun c7 => ?_) (fun c7 => ?_)
    · have h := ite_t c7 h
      refine a_aload_n K (dq 12 rfl) rfl rfl ?_
      refine a_iload_n K (dq 13 rfl) rfl rfl ?_
      obtain ⟨r8, h8, h⟩ := bnd h
      refine a_callVi K (s_X7_farthestOf S a1  r6.2 r8 h8) v_20 rfl rfl cw_X7_farthestOf ml_X7_164 (by decide) rfl (rest := []) rfl (Nat.le_of_ble_eq_true rfl) (dq 14 rfl) (by decide) ?_
      obtain rfl := Option.some.inj h
      exact a_iret K rfl rfl (dq 15 rfl) (Nat.le_of_ble_eq_true rfl) (Nat.le_of_ble_eq_true rfl) rfl rfl
    · have h := ite_f c7 h
      refine a_iconst K (dq 10 rfl) (v := 0) rfl ?_
      refine a_goto K (tgt := 29) (dq 11 rfl) rfl ?_
      obtain rfl := Option.some.inj h
      exact a_iret K rfl rfl (dq 15 rfl) (Nat.le_of_ble_eq_true rfl) (Nat.le_of_ble_eq_true rfl) rfl rfl
def t_X7_commands : List (Nat × Instr × Nat) := [(0, .aload_n 0, 1), (1, .invokevirtual 221, 3), (4, .istore_n 1, 1), (5, .aload_n 0, 1), (6, .iload_n 1, 1), (7, .ifCond .eq 7, 3), (10, .iconst (-1), 1), (11, .goto 7, 3), (14, .aload_n 0, 1), (15, .getfield 173, 3), (18, .putfield 25, 3), (21, .aload_n 0, 1), (22, .iconst 0, 1), (23, .putfield 170, 3), (26, .aload_n 0, 1), (27, .iload_n 1, 1), (28, .ifCond .eq 7, 3), (31, .iconst 0, 1), (32, .goto 4, 3), (35, .iconst 1, 1), (36, .invokevirtual 146, 3), (39, .ifCond .eq 5, 3), (42, .iconst 0, 1), (43, .ireturn, 1), (44, .aload_n 0, 1), (45, .getfield 7, 3), (48, .iconst 0, 1), (49, .aload_n 0, 1), (50, .getfield 19, 3), (53, .iconst 0, 1), (54, .invokestatic 61, 3), (57, .aload_n 0, 1), (58, .iconst 1, 1), (59, .putfield 48, 3), (62, .aload_n 0, 1), (63, .iconst 0, 1), (64, .putfield 52, 3), (67, .iconst 0, 1), (68, .istore_n 2, 1), (69, .aload_n 0, 1), (70, .getfield 52, 3), (73, .aload_n 0, 1), (74, .getfield 189, 3), (77, .if_icmp .ge 41, 3), (80, .aload_n 0, 1), (81, .getfield 39, 3), (84, .ifCond .ne 34, 3), (87, .aload_n 0, 1), (88, .iconst 4, 1), (89, .aload_n 0, 1), (90, .getfield 52, 3), (93, .imul, 1), (94, .invokevirtual 224, 3), (97, .istore_n 2, 1), (98, .aload_n 0, 1), (99, .getfield 39, 3), (102, .ifCond .ne (-33), 3), (105, .aload_n 0, 1), (106, .dup, 1), (107, .getfield 52, 3), (110, .iconst 1, 1), (111, .iadd, 1), (112, .putfield 52, 3), (115, .goto (-46), 3), (118, .aload_n 0, 1), (119, .iconst 0, 1), (120, .putfield 48, 3), (123, .aload_n 0, 1), (124, .getfield 39, 3), (127, .ifCond .le 31, 3), (130, .aload_n 0, 1), (131, .getfield 19, 3), (134, .iconst 0, 1), (135, .aload_n 0, 1), (136, .getfield 7, 3), (139, .iconst 0, 1), (140, .invokestatic 61, 3), (143, .aload_n 0, 1), (144, .iconst 2, 1), (145, .putfield 39, 3), (148, .iload_n 2, 1), (149, .ifCond .le 7, 3), (152, .iconst 0, 1), (153, .goto 4, 3), (156, .iload_n 2, 1), (157, .ireturn, 1), (158, .aload_n 0, 1), (159, .aload_n 0, 1), (160, .getfield 19, 3), (163, .invokevirtual 99, 3), (166, .aload_n 0, 1), (167, .getfield 189, 3), (170, .ireturn, 1)]
theorem dt_X7_commands : tblOK cX7_commands t_X7_commands = true := by decide +kernel
def p_X7_commands_L69  : Nat → Int32 → Sg → Option ((Int32 × Sg))
  | 0, _, _ => none
  | n + 1, v2, σ => if (gI σ 20 0 21) ≤ (gI σ 20 0 7) then (if (gI (sI σ 20 0 6 0) 20 0 8) ≤ 0 then ((p_X7_keeps 24 (sI σ 20 0 6 0)).bind fun r9 => some ((gI r9 20 0 21), r9)) else ((p_X7_copies 24 0 21 0 (sI σ 20 0 6 0)).bind fun r10 => if v2 ≤ 0 then (some (v2, sI r10 20 0 8 2)) else (some (0, sI r10 20 0 8 2)))) else (if (gI σ 20 0 8) = 0 then ((p_X7_carries (4 * (gI σ 20 0 7)) σ).bind fun r17 => if (gI r17.2 20 0 8) = 0 then (p_X7_commands_L69 n r17.1 (sI r17.2 20 0 7 ((gI r17.2 20 0 7) + 1))) else (p_X7_commands_L69 n r17.1 r17.2)) else (if (gI (sI σ 20 0 6 0) 20 0 8) ≤ 0 then ((p_X7_keeps 24 (sI σ 20 0 6 0)).bind fun r14 => some ((gI r14 20 0 21), r14)) else ((p_X7_copies 24 0 21 0 (sI σ 20 0 6 0)).bind fun r15 => if v2 ≤ 0 then (some (v2, sI r15 20 0 8 2)) else (some (0, sI r15 20 0 8 2)))))
def p_X7_commands  (σ : Sg) : Option (Int32 × Sg) :=
  (p_X7_isText  σ).bind fun r1 => if r1.1 = 0 then (if r1.1 = 0 then ((p_X7_fails 1 (sI (sI r1.2 20 0 14 (gI r1.2 20 0 19)) 20 0 13 0)).bind fun r4 => if r4.1 = 0 then ((p_X7_copies 21 0 24 0 r4.2).bind fun r6 => p_X7_commands_L69 400 0 (sI (sI r6 20 0 6 1) 20 0 7 0)) else (some (0, r4.2))) else ((p_X7_fails 0 (sI (sI r1.2 20 0 14 (gI r1.2 20 0 19)) 20 0 13 0)).bind fun r19 => if r19.1 = 0 then ((p_X7_copies 21 0 24 0 r19.2).bind fun r21 => p_X7_commands_L69 400 0 (sI (sI r21 20 0 6 1) 20 0 7 0)) else (some (0, r19.2)))) else (if r1.1 = 0 then ((p_X7_fails 1 (sI (sI r1.2 20 0 14 (-1)) 20 0 13 0)).bind fun r23 => if r23.1 = 0 then ((p_X7_copies 21 0 24 0 r23.2).bind fun r25 => p_X7_commands_L69 400 0 (sI (sI r25 20 0 6 1) 20 0 7 0)) else (some (0, r23.2))) else ((p_X7_fails 0 (sI (sI r1.2 20 0 14 (-1)) 20 0 13 0)).bind fun r26 => if r26.1 = 0 then ((p_X7_copies 21 0 24 0 r26.2).bind fun r28 => p_X7_commands_L69 400 0 (sI (sI r28 20 0 6 1) 20 0 7 0)) else (some (0, r26.2))))
set_option maxRecDepth 20000 in
set_option maxHeartbeats 1000000 in
theorem s_X7_commands_L69 {l : Launch} {D : va_G} {ty : Nat → ClassId} {ρ : Nat → Nat → Nat} {N0 : Nat} (S : St l ty ρ N0)   : ∀ (n : Nat) (v2 : Int32) (σ : Sg) (r : (Int32 × Sg)) (h : p_X7_commands_L69  n v2 σ = some r) {p : Program} {e : Env} {s : State} {m : MethodId} {args : Array Value} {below : List Frame} {meth : Method} {c : Code} (K : Cx p l s m args meth c cX7_commands 3 RX7 (some .int) D ty ρ N0) (hX : ∀ x ∈ c.exceptionTable.toList, False), WA p l e (rmk 7 0 0) s m args below meth c D ty ρ N0 3 (vx_MQ below (oQ D ty ρ N0 (oI r.1) r.2) (oX D ty ρ N0 (oI r.1) r.2) args s 0 0 (fun q => N0 ≤ q)) 69 [some (.ref (ρ 20 0)), none, some (.int v2)] [] σ 0 0 := by
  intro n
  induction n with
  | zero =>
    intro v2 σ r h
    simp only [p_X7_commands_L69] at h
    cases h
  | succ n ih =>
    intro v2 σ r h p e s m args below meth c K hX
    have dq := @tat _ _ dt_X7_commands
    rw [p_X7_commands_L69] at h
    refine a_aload_n K (dq 39 rfl) rfl rfl ?_
    refine a_get K (T := 20) (i := 0) (k := 7) (v := .int (gI σ 20 0 7)) v_20 rfl rfl in_X7 (Nat.le_of_ble_eq_true rfl) fl_X7_52 rfl (dq 40 rfl) ?_
    refine a_aload_n K (dq 41 rfl) rfl rfl ?_
    refine a_get K (T := 20) (i := 0) (k := 21) (v := .int (gI σ 20 0 21)) v_20 rfl rfl in_X7 (Nat.le_of_ble_eq_true rfl) fl_X7_189 rfl (dq 42 rfl) ?_
    refine a_icmp_ge K (tgt := 118) (dq 43 rfl) rfl (fun c7 => ?_) (fun c7 => ?_)
    · have h := ite_t c7 h
      refine a_aload_n K (dq 64 rfl) rfl rfl ?_
      refine a_iconst K (dq 65 rfl) (v := 0) rfl ?_
      refine a_put K (T := 20) (i := 0) (k := 6) v_20 rfl rfl in_X7 tyX7 tyX7_ok nmX7 (Nat.le_of_ble_eq_true rfl) fl_X7_48 rfl rfl (tyX7_ok 6 (by decide)) rfl rfl (dq 66 rfl) ?_
      refine a_aload_n K (dq 67 rfl) rfl rfl ?_
      refine a_get K (T := 20) (i := 0) (k := 8) (v := .int (gI (sI σ 20 0 6 0) 20 0 8)) v_20 rfl rfl in_X7 (Nat.le_of_ble_eq_true rfl) fl_X7_39 rfl (dq 68 rfl) ?_
      refine a_if_le K (tgt := 158) (dq 69 rfl) rfl (fun c8 => ?_) (fun c8 => ?_)
      · have h := ite_t c8 h
        refine a_aload_n K (dq 86 rfl) rfl rfl ?_
        refine a_aload_n K (dq 87 rfl) rfl rfl ?_
        refine a_get K (T := 20) (i := 0) (k := 3) (v := .ref (ρ 24 0)) v_20 rfl rfl in_X7 (Nat.le_of_ble_eq_true rfl) fl_X7_19 rfl (dq 88 rfl) ?_
        obtain ⟨r9, h9, h⟩ := bnd h
        refine a_callVv K (s_X7_keeps S 24 v_24 rfl rfl (sI σ 20 0 6 0) r9 h9) v_20 rfl rfl cw_X7_keeps ml_X7_99 (by decide) rfl (rest := []) rfl (Nat.le_of_ble_eq_true rfl) (dq 89 rfl) (by decide) ?_
        refine a_aload_n K (dq 90 rfl) rfl rfl ?_
        refine a_get K (T := 20) (i := 0) (k := 21) (v := .int (gI r9 20 0 21)) v_20 rfl rfl in_X7 (Nat.le_of_ble_eq_true rfl) fl_X7_189 rfl (dq 91 rfl) ?_
        obtain rfl := Option.some.inj h
        exact a_iret K rfl rfl (dq 92 rfl) (Nat.le_of_ble_eq_true rfl) (Nat.le_of_ble_eq_true rfl) rfl rfl
      · have h := ite_f c8 h
        refine a_aload_n K (dq 70 rfl) rfl rfl ?_
        refine a_get K (T := 20) (i := 0) (k := 3) (v := .ref (ρ 24 0)) v_20 rfl rfl in_X7 (Nat.le_of_ble_eq_true rfl) fl_X7_19 rfl (dq 71 rfl) ?_
        refine a_iconst K (dq 72 rfl) (v := 0) rfl ?_
        refine a_aload_n K (dq 73 rfl) rfl rfl ?_
        refine a_get K (T := 20) (i := 0) (k := 0) (v := .ref (ρ 21 0)) v_20 rfl rfl in_X7 (Nat.le_of_ble_eq_true rfl) fl_X7_7 rfl (dq 74 rfl) ?_
        refine a_iconst K (dq 75 rfl) (v := 0) rfl ?_
        obtain ⟨r10, h10, h⟩ := bnd h
        refine a_callSv K (s_X7_copies S 24 0 21 0 v_24 rfl rfl v_21 rfl rfl (sI σ 20 0 6 0) r10 h10) cw_X7_copies ml_X7_61 (by decide) rfl (rest := []) rfl (Nat.le_of_ble_eq_true rfl) (dq 76 rfl) (by decide) ?_
        refine a_aload_n K (dq 77 rfl) rfl rfl ?_
        refine a_iconst K (dq 78 rfl) (v := 2) rfl ?_
        refine a_put K (T := 20) (i := 0) (k := 8) v_20 rfl rfl in_X7 tyX7 tyX7_ok nmX7 (Nat.le_of_ble_eq_true rfl) fl_X7_39 rfl rfl (tyX7_ok 8 (by decide)) rfl rfl (dq 79 rfl) ?_
        refine a_iload_n K (dq 80 rfl) rfl rfl ?_
        refine a_if_le K (tgt := 156) (dq 81 rfl) rfl (fun c11 => ?_) (fun c11 => ?_)
        · have h := ite_t c11 h
          refine a_iload_n K (dq 84 rfl) rfl rfl ?_
          obtain rfl := Option.some.inj h
          exact a_iret K rfl rfl (dq 85 rfl) (Nat.le_of_ble_eq_true rfl) (Nat.le_of_ble_eq_true rfl) rfl rfl
        · have h := ite_f c11 h
          refine a_iconst K (dq 82 rfl) (v := 0) rfl ?_
          refine a_goto K (tgt := 157) (dq 83 rfl) rfl ?_
          obtain rfl := Option.some.inj h
          exact a_iret K rfl rfl (dq 85 rfl) (Nat.le_of_ble_eq_true rfl) (Nat.le_of_ble_eq_true rfl) rfl rfl
    · have h := ite_f c7 h
      refine a_aload_n K (dq 44 rfl) rfl rfl ?_
      refine a_get K (T := 20) (i := 0) (k := 8) (v := .int (gI σ 20 0 8)) v_20 rfl rfl in_X7 (Nat.le_of_ble_eq_true rfl) fl_X7_39 rfl (dq 45 rfl) ?_
      refine a_if_ne K (tgt := 118) (dq 46 rfl) rfl (fun c12 => ?_) (fun c12 => ?_)
      · have h := ite_f c12 h
        refine a_aload_n K (dq 64 rfl) rfl rfl ?_
        refine a_iconst K (dq 65 rfl) (v := 0) rfl ?_
        refine a_put K (T := 20) (i := 0) (k := 6) v_20 rfl rfl in_X7 tyX7 tyX7_ok nmX7 (Nat.le_of_ble_eq_true rfl) fl_X7_48 rfl rfl (tyX7_ok 6 (by decide)) rfl rfl (dq 66 rfl) ?_
        refine a_aload_n K (dq 67 rfl) rfl rfl ?_
        refine a_get K (T := 20) (i := 0) (k := 8) (v := .int (gI (sI σ 20 0 6 0) 20 0 8)) v_20 rfl rfl in_X7 (Nat.le_of_ble_eq_true rfl) fl_X7_39 rfl (dq 68 rfl) ?_
        refine a_if_le K (tgt := 158) (dq 69 rfl) rfl (fun c13 => ?_) (fun c13 => ?_)
        · have h := ite_t c13 h
          refine a_aload_n K (dq 86 rfl) rfl rfl ?_
          refine a_aload_n K (dq 87 rfl) rfl rfl ?_
          refine a_get K (T := 20) (i := 0) (k := 3) (v := .ref (ρ 24 0)) v_20 rfl rfl in_X7 (Nat.le_of_ble_eq_true rfl) fl_X7_19 rfl (dq 88 rfl) ?_
          obtain ⟨r14, h14, h⟩ := bnd h
          refine a_callVv K (s_X7_keeps S 24 v_24 rfl rfl (sI σ 20 0 6 0) r14 h14) v_20 rfl rfl cw_X7_keeps ml_X7_99 (by decide) rfl (rest := []) rfl (Nat.le_of_ble_eq_true rfl) (dq 89 rfl) (by decide) ?_
          refine a_aload_n K (dq 90 rfl) rfl rfl ?_
          refine a_get K (T := 20) (i := 0) (k := 21) (v := .int (gI r14 20 0 21)) v_20 rfl rfl in_X7 (Nat.le_of_ble_eq_true rfl) fl_X7_189 rfl (dq 91 rfl) ?_
          obtain rfl := Option.some.inj h
          exact a_iret K rfl rfl (dq 92 rfl) (Nat.le_of_ble_eq_true rfl) (Nat.le_of_ble_eq_true rfl) rfl rfl
        · have h := ite_f c13 h
          refine a_aload_n K (dq 70 rfl) rfl rfl ?_
          refine a_get K (T := 20) (i := 0) (k := 3) (v := .ref (ρ 24 0)) v_20 rfl rfl in_X7 (Nat.le_of_ble_eq_true rfl) fl_X7_19 rfl (dq 71 rfl) ?_
          refine a_iconst K (dq 72 rfl) (v := 0) rfl ?_
          refine a_aload_n K (dq 73 rfl) rfl rfl ?_
          refine a_get K (T := 20) (i := 0) (k := 0) (v := .ref (ρ 21 0)) v_20 rfl rfl in_X7 (Nat.le_of_ble_eq_true rfl) fl_X7_7 rfl (dq 74 rfl) ?_
          refine a_iconst K (dq 75 rfl) (v := 0) rfl ?_
          obtain ⟨r15, h15, h⟩ := bnd h
          refine a_callSv K (s_X7_copies S 24 0 21 0 v_24 rfl rfl v_21 rfl rfl (sI σ 20 0 6 0) r15 h15) cw_X7_copies ml_X7_61 (by decide) rfl (rest := []) rfl (Nat.le_of_ble_eq_true rfl) (dq 76 rfl) (by decide) ?_
          refine a_aload_n K (dq 77 rfl) rfl rfl ?_
          refine a_iconst K (dq 78 rfl) (v := 2) rfl ?_
          refine a_put K (T := 20) (i := 0) (k := 8) v_20 rfl rfl in_X7 tyX7 tyX7_ok nmX7 (Nat.le_of_ble_eq_true rfl) fl_X7_39 rfl rfl (tyX7_ok 8 (by decide)) rfl rfl (dq 79 rfl) ?_
          refine a_iload_n K (dq 80 rfl) rfl rfl ?_
          refine a_if_le K (tgt := 156) (dq 81 rfl) rfl (fun c16 => ?_) (fun c16 => ?_)
          · have h := ite_t c16 h
            refine a_iload_n K (dq 84 rfl) rfl rfl ?_
            obtain rfl := Option.some.inj h
            exact a_iret K rfl rfl (dq 85 rfl) (Nat.le_of_ble_eq_true rfl) (Nat.le_of_ble_eq_true rfl) rfl rfl
          · have h := ite_f c16 h
            refine a_iconst K (dq 82 rfl) (v := 0) rfl ?_
            refine a_goto K (tgt := 157) (dq 83 rfl) rfl ?_
            obtain rfl := Option.some.inj h
            exact a_iret K rfl rfl (dq 85 rfl) (Nat.le_of_ble_eq_true rfl) (Nat.le_of_ble_eq_true rfl) rfl rfl
      · have h := ite_t c12 h
        refine a_aload_n K (dq 47 rfl) rfl rfl ?_
        refine a_iconst K (dq 48 rfl) (v := 4) rfl ?_
        refine a_aload_n K (dq 49 rfl) rfl rfl ?_
        refine a_get K (T := 20) (i := 0) (k := 7) (v := .int (gI σ 20 0 7)) v_20 rfl rfl in_X7 (Nat.le_of_ble_eq_true rfl) fl_X7_52 rfl (dq 50 rfl) ?_
        refine a_imul K (dq 51 rfl) ?_
        obtain ⟨r17, h17, h⟩ := bnd h
        refine a_callVi K (s_X7_carries S (4 * (gI σ 20 0 7))  σ r17 h17) v_20 rfl rfl cw_X7_carries ml_X7_224 (by decide) rfl (rest := []) rfl (Nat.le_of_ble_eq_true rfl) (dq 52 rfl) (by decide) ?_
        refine a_istore_n K (dq 53 rfl) rfl (Nat.le_of_ble_eq_true rfl) (ls' := [some (.ref (ρ 20 0)), none, some (.int r17.1)]) rfl ?_
        refine a_aload_n K (dq 54 rfl) rfl rfl ?_
        refine a_get K (T := 20) (i := 0) (k := 8) (v := .int (gI r17.2 20 0 8)) v_20 rfl rfl in_X7 (Nat.le_of_ble_eq_true rfl) fl_X7_39 rfl (dq 55 rfl) ?_
        refine a_if_ne K (tgt := 69) (dq 56 rfl) rfl (fun c18 => ?_) (fun c18 => ?_)
        · have h := ite_f c18 h
          exact ih r17.1 r17.2 r h K hX
        · have h := ite_t c18 h
          refine a_aload_n K (dq 57 rfl) rfl rfl ?_
          refine a_dup K (dq 58 rfl) rfl ?_
          refine a_get K (T := 20) (i := 0) (k := 7) (v := .int (gI r17.2 20 0 7)) v_20 rfl rfl in_X7 (Nat.le_of_ble_eq_true rfl) fl_X7_52 rfl (dq 59 rfl) ?_
          refine a_iconst K (dq 60 rfl) (v := 1) rfl ?_
          refine a_iadd K (dq 61 rfl) ?_
          refine a_put K (T := 20) (i := 0) (k := 7) v_20 rfl rfl in_X7 tyX7 tyX7_ok nmX7 (Nat.le_of_ble_eq_true rfl) fl_X7_52 rfl rfl (tyX7_ok 7 (by decide)) rfl rfl (dq 62 rfl) ?_
          refine a_goto K (tgt := 69) (dq 63 rfl) rfl ?_
          exact ih r17.1 (sI r17.2 20 0 7 ((gI r17.2 20 0 7) + 1)) r h K hX
set_option maxRecDepth 20000 in
set_option maxHeartbeats 1000000 in
theorem s_X7_commands {l : Launch} {D : va_G} {ty : Nat → ClassId} {ρ : Nat → Nat → Nat} {N0 : Nat} (S : St l ty ρ N0)   (σ : Sg) (r : (Int32 × Sg)) (h : p_X7_commands  σ = some r) : AMet l D ty ρ N0 yX7_commands (Cond.code yX7_commands cX7_commands 3 (some .int) :: GW) (rmk 7 0 0) [.ref (ρ 20 0)] σ (oI r.1) r.2 := by
  refine am_enter S (by decide) rfl rfl (Nat.le_of_ble_eq_true rfl) ?_
  intro p e s m args below meth c K hX
  have dq := @tat _ _ dt_X7_commands
  unfold p_X7_commands at h
  show WA p l e _ s m args below meth c D ty ρ N0 3 _ 0 [some (.ref (ρ 20 0)), none, none] [] σ 0 0
  refine a_aload_n K (dq 0 rfl) rfl rfl ?_
  obtain ⟨r1, h1, h⟩ := bnd h
  refine a_callVi K (s_X7_isText S   σ r1 h1) v_20 rfl rfl cw_X7_isText ml_X7_221 (by decide) rfl (rest := []) rfl (Nat.le_of_ble_eq_true rfl) (dq 1 rfl) (by decide) ?_
  refine a_istore_n K (dq 2 rfl) rfl (Nat.le_of_ble_eq_true rfl) (ls' := [some (.ref (ρ 20 0)), some (.int r1.1), none]) rfl ?_
  refine a_aload_n K (dq 3 rfl) rfl rfl ?_
  refine a_iload_n K (dq 4 rfl) rfl rfl ?_
  refine a_if_eq K (tgt := 14) (dq 5 rfl) rfl (fun c2 => ?_) (fun c2 => ?_)
  · have h := ite_t c2 h
    refine a_aload_n K (dq 8 rfl) rfl rfl ?_
    refine a_get K (T := 20) (i := 0) (k := 19) (v := .int (gI r1.2 20 0 19)) v_20 rfl rfl in_X7 (Nat.le_of_ble_eq_true rfl) fl_X7_173 rfl (dq 9 rfl) ?_
    refine a_put K (T := 20) (i := 0) (k := 14) v_20 rfl rfl in_X7 tyX7 tyX7_ok nmX7 (Nat.le_of_ble_eq_true rfl) fl_X7_25 rfl rfl (tyX7_ok 14 (by decide)) rfl rfl (dq 10 rfl) ?_
    refine a_aload_n K (dq 11 rfl) rfl rfl ?_
    refine a_iconst K (dq 12 rfl) (v := 0) rfl ?_
    refine a_put K (T := 20) (i := 0) (k := 13) v_20 rfl rfl in_X7 tyX7 tyX7_ok nmX7 (Nat.le_of_ble_eq_true rfl) fl_X7_170 rfl rfl (tyX7_ok 13 (by decide)) rfl rfl (dq 13 rfl) ?_
    refine a_aload_n K (dq 14 rfl) rfl rfl ?_
    refine a_iload_n K (dq 15 rfl) rfl rfl ?_
    refine a_if_eq K (tgt := 35) (dq 16 rfl) rfl (fun c3 => ?_) (fun c3 => ?_)
    · have h := ite_t c3 h
      refine a_iconst K (dq 19 rfl) (v := 1) rfl ?_
      obtain ⟨r4, h4, h⟩ := bnd h
      refine a_callVi K (s_X7_fails S 1  (sI (sI r1.2 20 0 14 (gI r1.2 20 0 19)) 20 0 13 0) r4 h4) v_20 rfl rfl cw_X7_fails ml_X7_146 (by decide) rfl (rest := []) rfl (Nat.le_of_ble_eq_true rfl) (dq 20 rfl) (by decide) ?_
      refine a_if_eq K (tgt := 44) (dq 21 rfl) rfl (fun c5 => ?_) (fun c5 => ?_)
      · have h := ite_t c5 h
        refine a_aload_n K (dq 24 rfl) rfl rfl ?_
        refine a_get K (T := 20) (i := 0) (k := 0) (v := .ref (ρ 21 0)) v_20 rfl rfl in_X7 (Nat.le_of_ble_eq_true rfl) fl_X7_7 rfl (dq 25 rfl) ?_
        refine a_iconst K (dq 26 rfl) (v := 0) rfl ?_
        refine a_aload_n K (dq 27 rfl) rfl rfl ?_
        refine a_get K (T := 20) (i := 0) (k := 3) (v := .ref (ρ 24 0)) v_20 rfl rfl in_X7 (Nat.le_of_ble_eq_true rfl) fl_X7_19 rfl (dq 28 rfl) ?_
        refine a_iconst K (dq 29 rfl) (v := 0) rfl ?_
        obtain ⟨r6, h6, h⟩ := bnd h
        refine a_callSv K (s_X7_copies S 21 0 24 0 v_21 rfl rfl v_24 rfl rfl r4.2 r6 h6) cw_X7_copies ml_X7_61 (by decide) rfl (rest := []) rfl (Nat.le_of_ble_eq_true rfl) (dq 30 rfl) (by decide) ?_
        refine a_aload_n K (dq 31 rfl) rfl rfl ?_
        refine a_iconst K (dq 32 rfl) (v := 1) rfl ?_
        refine a_put K (T := 20) (i := 0) (k := 6) v_20 rfl rfl in_X7 tyX7 tyX7_ok nmX7 (Nat.le_of_ble_eq_true rfl) fl_X7_48 rfl rfl (tyX7_ok 6 (by decide)) rfl rfl (dq 33 rfl) ?_
        refine a_aload_n K (dq 34 rfl) rfl rfl ?_
        refine a_iconst K (dq 35 rfl) (v := 0) rfl ?_
        refine a_put K (T := 20) (i := 0) (k := 7) v_20 rfl rfl in_X7 tyX7 tyX7_ok nmX7 (Nat.le_of_ble_eq_true rfl) fl_X7_52 rfl rfl (tyX7_ok 7 (by decide)) rfl rfl (dq 36 rfl) ?_
        refine a_iconst K (dq 37 rfl) (v := 0) rfl ?_
        refine a_istore_n K (dq 38 rfl) rfl (Nat.le_of_ble_eq_true rfl) (ls' := [some (.ref (ρ 20 0)), some (.int r1.1), some (.int 0)]) rfl ?_
        refine a_le2 (ls' := [some (.ref (ρ 20 0)), none, some (.int 0)]) ⟨rfl, rfl, trivial⟩ ?_
        exact s_X7_commands_L69 S    400 0 (sI (sI r6 20 0 6 1) 20 0 7 0) r h K hX
      · have h := ite_f c5 h
        refine a_iconst K (dq 22 rfl) (v := 0) rfl ?_
        obtain rfl := Option.some.inj h
        exact a_iret K rfl rfl (dq 23 rfl) (Nat.le_of_ble_eq_true rfl) (Nat.le_of_ble_eq_true rfl) rfl rfl
    · have h := ite_f c3 h
      refine a_iconst K (dq 17 rfl) (v := 0) rfl ?_
      refine a_goto K (tgt := 36) (dq 18 rfl) rfl ?_
      obtain ⟨r19, h19, h⟩ := bnd h
      refine a_callVi K (s_X7_fails S 0  (sI (sI r1.2 20 0 14 (gI r1.2 20 0 19)) 20 0 13 0) r19 h19) v_20 rfl rfl cw_X7_fails ml_X7_146 (by decide) rfl (rest := []) rfl (Nat.le_of_ble_eq_true rfl) (dq 20 rfl) (by decide) ?_
      refine a_if_eq K (tgt := 44) (dq 21 rfl) rfl (fun c20 => ?_) (fun c20 => ?_)
      · have h := ite_t c20 h
        refine a_aload_n K (dq 24 rfl) rfl rfl ?_
        refine a_get K (T := 20) (i := 0) (k := 0) (v := .ref (ρ 21 0)) v_20 rfl rfl in_X7 (Nat.le_of_ble_eq_true rfl) fl_X7_7 rfl (dq 25 rfl) ?_
        refine a_iconst K (dq 26 rfl) (v := 0) rfl ?_
        refine a_aload_n K (dq 27 rfl) rfl rfl ?_
        refine a_get K (T := 20) (i := 0) (k := 3) (v := .ref (ρ 24 0)) v_20 rfl rfl in_X7 (Nat.le_of_ble_eq_true rfl) fl_X7_19 rfl (dq 28 rfl) ?_
        refine a_iconst K (dq 29 rfl) (v := 0) rfl ?_
        obtain ⟨r21, h21, h⟩ := bnd h
        refine a_callSv K (s_X7_copies S 21 0 24 0 v_21 rfl rfl v_24 rfl rfl r19.2 r21 h21) cw_X7_copies ml_X7_61 (by decide) rfl (rest := []) rfl (Nat.le_of_ble_eq_true rfl) (dq 30 rfl) (by decide) ?_
        refine a_aload_n K (dq 31 rfl) rfl rfl ?_
        refine a_iconst K (dq 32 rfl) (v := 1) rfl ?_
        refine a_put K (T := 20) (i := 0) (k := 6) v_20 rfl rfl in_X7 tyX7 tyX7_ok nmX7 (Nat.le_of_ble_eq_true rfl) fl_X7_48 rfl rfl (tyX7_ok 6 (by decide)) rfl rfl (dq 33 rfl) ?_
        refine a_aload_n K (dq 34 rfl) rfl rfl ?_
        refine a_iconst K (dq 35 rfl) (v := 0) rfl ?_
        refine a_put K (T := 20) (i := 0) (k := 7) v_20 rfl rfl in_X7 tyX7 tyX7_ok nmX7 (Nat.le_of_ble_eq_true rfl) fl_X7_52 rfl rfl (tyX7_ok 7 (by decide)) rfl rfl (dq 36 rfl) ?_
        refine a_iconst K (dq 37 rfl) (v := 0) rfl ?_
        refine a_istore_n K (dq 38 rfl) rfl (Nat.le_of_ble_eq_true rfl) (ls' := [some (.ref (ρ 20 0)), some (.int r1.1), some (.int 0)]) rfl ?_
        refine a_le2 (ls' := [some (.ref (ρ 20 0)), none, some (.int 0)]) ⟨rfl, rfl, trivial⟩ ?_
        exact s_X7_commands_L69 S    400 0 (sI (sI r21 20 0 6 1) 20 0 7 0) r h K hX
      · have h := ite_f c20 h
        refine a_iconst K (dq 22 rfl) (v := 0) rfl ?_
        obtain rfl := Option.some.inj h
        exact a_iret K rfl rfl (dq 23 rfl) (Nat.le_of_ble_eq_true rfl) (Nat.le_of_ble_eq_true rfl) rfl rfl
  · have h := ite_f c2 h
    refine a_iconst K (dq 6 rfl) (v := (-1)) rfl ?_
    refine a_goto K (tgt := 18) (dq 7 rfl) rfl ?_
    refine a_put K (T := 20) (i := 0) (k := 14) v_20 rfl rfl in_X7 tyX7 tyX7_ok nmX7 (Nat.le_of_ble_eq_true rfl) fl_X7_25 rfl rfl (tyX7_ok 14 (by decide)) rfl rfl (dq 10 rfl) ?_
    refine a_aload_n K (dq 11 rfl) rfl rfl ?_
    refine a_iconst K (dq 12 rfl) (v := 0) rfl ?_
    refine a_put K (T := 20) (i := 0) (k := 13) v_20 rfl rfl in_X7 tyX7 tyX7_ok nmX7 (Nat.le_of_ble_eq_true rfl) fl_X7_170 rfl rfl (tyX7_ok 13 (by decide)) rfl rfl (dq 13 rfl) ?_
    refine a_aload_n K (dq 14 rfl) rfl rfl ?_
    refine a_iload_n K (dq 15 rfl) rfl rfl ?_
    refine a_if_eq K (tgt := 35) (dq 16 rfl) rfl (fun c22 => ?_) (fun c22 => ?_)
    · have h := ite_t c22 h
      refine a_iconst K (dq 19 rfl) (v := 1) rfl ?_
      obtain ⟨r23, h23, h⟩ := bnd h
      refine a_callVi K (s_X7_fails S 1  (sI (sI r1.2 20 0 14 (-1)) 20 0 13 0) r23 h23) v_20 rfl rfl cw_X7_fails ml_X7_146 (by decide) rfl (rest := []) rfl (Nat.le_of_ble_eq_true rfl) (dq 20 rfl) (by decide) ?_
      refine a_if_eq K (tgt := 44) (dq 21 rfl) rfl (fun c24 => ?_) (fun c24 => ?_)
      · have h := ite_t c24 h
        refine a_aload_n K (dq 24 rfl) rfl rfl ?_
        refine a_get K (T := 20) (i := 0) (k := 0) (v := .ref (ρ 21 0)) v_20 rfl rfl in_X7 (Nat.le_of_ble_eq_true rfl) fl_X7_7 rfl (dq 25 rfl) ?_
        refine a_iconst K (dq 26 rfl) (v := 0) rfl ?_
        refine a_aload_n K (dq 27 rfl) rfl rfl ?_
        refine a_get K (T := 20) (i := 0) (k := 3) (v := .ref (ρ 24 0)) v_20 rfl rfl in_X7 (Nat.le_of_ble_eq_true rfl) fl_X7_19 rfl (dq 28 rfl) ?_
        refine a_iconst K (dq 29 rfl) (v := 0) rfl ?_
        obtain ⟨r25, h25, h⟩ := bnd h
        refine a_callSv K (s_X7_copies S 21 0 24 0 v_21 rfl rfl v_24 rfl rfl r23.2 r25 h25) cw_X7_copies ml_X7_61 (by decide) rfl (rest := []) rfl (Nat.le_of_ble_eq_true rfl) (dq 30 rfl) (by decide) ?_
        refine a_aload_n K (dq 31 rfl) rfl rfl ?_
        refine a_iconst K (dq 32 rfl) (v := 1) rfl ?_
        refine a_put K (T := 20) (i := 0) (k := 6) v_20 rfl rfl in_X7 tyX7 tyX7_ok nmX7 (Nat.le_of_ble_eq_true rfl) fl_X7_48 rfl rfl (tyX7_ok 6 (by decide)) rfl rfl (dq 33 rfl) ?_
        refine a_aload_n K (dq 34 rfl) rfl rfl ?_
        refine a_iconst K (dq 35 rfl) (v := 0) rfl ?_
        refine a_put K (T := 20) (i := 0) (k := 7) v_20 rfl rfl in_X7 tyX7 tyX7_ok nmX7 (Nat.le_of_ble_eq_true rfl) fl_X7_52 rfl rfl (tyX7_ok 7 (by decide)) rfl rfl (dq 36 rfl) ?_
        refine a_iconst K (dq 37 rfl) (v := 0) rfl ?_
        refine a_istore_n K (dq 38 rfl) rfl (Nat.le_of_ble_eq_true rfl) (ls' := [some (.ref (ρ 20 0)), some (.int r1.1), some (.int 0)]) rfl ?_
        refine a_le2 (ls' := [some (.ref (ρ 20 0)), none, some (.int 0)]) ⟨rfl, rfl, trivial⟩ ?_
        exact s_X7_commands_L69 S    400 0 (sI (sI r25 20 0 6 1) 20 0 7 0) r h K hX
      · have h := ite_f c24 h
        refine a_iconst K (dq 22 rfl) (v := 0) rfl ?_
        obtain rfl := Option.some.inj h
        exact a_iret K rfl rfl (dq 23 rfl) (Nat.le_of_ble_eq_true rfl) (Nat.le_of_ble_eq_true rfl) rfl rfl
    · have h := ite_f c22 h
      refine a_iconst K (dq 17 rfl) (v := 0) rfl ?_
      refine a_goto K (tgt := 36) (dq 18 rfl) rfl ?_
      obtain ⟨r26, h26, h⟩ := bnd h
      refine a_callVi K (s_X7_fails S 0  (sI (sI r1.2 20 0 14 (-1)) 20 0 13 0) r26 h26) v_20 rfl rfl cw_X7_fails ml_X7_146 (by decide) rfl (rest := []) rfl (Nat.le_of_ble_eq_true rfl) (dq 20 rfl) (by decide) ?_
      refine a_if_eq K (tgt := 44) (dq 21 rfl) rfl (fun c27 => ?_) (fun c27 => ?_)
      · have h := ite_t c27 h
        refine a_aload_n K (dq 24 rfl) rfl rfl ?_
        refine a_get K (T := 20) (i := 0) (k := 0) (v := .ref (ρ 21 0)) v_20 rfl rfl in_X7 (Nat.le_of_ble_eq_true rfl) fl_X7_7 rfl (dq 25 rfl) ?_
        refine a_iconst K (dq 26 rfl) (v := 0) rfl ?_
        refine a_aload_n K (dq 27 rfl) rfl rfl ?_
        refine a_get K (T := 20) (i := 0) (k := 3) (v := .ref (ρ 24 0)) v_20 rfl rfl in_X7 (Nat.le_of_ble_eq_true rfl) fl_X7_19 rfl (dq 28 rfl) ?_
        refine a_iconst K (dq 29 rfl) (v := 0) rfl ?_
        obtain ⟨r28, h28, h⟩ := bnd h
        refine a_callSv K (s_X7_copies S 21 0 24 0 v_21 rfl rfl v_24 rfl rfl r26.2 r28 h28) cw_X7_copies ml_X7_61 (by decide) rfl (rest := []) rfl (Nat.le_of_ble_eq_true rfl) (dq 30 rfl) (by decide) ?_
        refine a_aload_n K (dq 31 rfl) rfl rfl ?_
        refine a_iconst K (dq 32 rfl) (v := 1) rfl ?_
        refine a_put K (T := 20) (i := 0) (k := 6) v_20 rfl rfl in_X7 tyX7 tyX7_ok nmX7 (Nat.le_of_ble_eq_true rfl) fl_X7_48 rfl rfl (tyX7_ok 6 (by decide)) rfl rfl (dq 33 rfl) ?_
        refine a_aload_n K (dq 34 rfl) rfl rfl ?_
        refine a_iconst K (dq 35 rfl) (v := 0) rfl ?_
        refine a_put K (T := 20) (i := 0) (k := 7) v_20 rfl rfl in_X7 tyX7 tyX7_ok nmX7 (Nat.le_of_ble_eq_true rfl) fl_X7_52 rfl rfl (tyX7_ok 7 (by decide)) rfl rfl (dq 36 rfl) ?_
        refine a_iconst K (dq 37 rfl) (v := 0) rfl ?_
        refine a_istore_n K (dq 38 rfl) rfl (Nat.le_of_ble_eq_true rfl) (ls' := [some (.ref (ρ 20 0)), some (.int r1.1), some (.int 0)]) rfl ?_
        refine a_le2 (ls' := [some (.ref (ρ 20 0)), none, some (.int 0)]) ⟨rfl, rfl, trivial⟩ ?_
        exact s_X7_commands_L69 S    400 0 (sI (sI r28 20 0 6 1) 20 0 7 0) r h K hX
      · have h := ite_f c27 h
        refine a_iconst K (dq 22 rfl) (v := 0) rfl ?_
        obtain rfl := Option.some.inj h
        exact a_iret K rfl rfl (dq 23 rfl) (Nat.le_of_ble_eq_true rfl) (Nat.le_of_ble_eq_true rfl) rfl rfl
