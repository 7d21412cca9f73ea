theorem ms_25 : Cond.selects RX12 yX12_gathers yX12_gathers ∈ lwW := lwW_in (List.mem_append_left _ (List.mem_of_getElem? (i := 25) (by decide +kernel))) rfl
theorem ms_26 : Cond.selects RX12 yX12_triesLast yX12_triesLast ∈ lwW := lwW_in (List.mem_append_left _ (List.mem_of_getElem? (i := 26) (by decide +kernel))) rfl
theorem ms_27 : Cond.selects RX12 yX12_tries yX12_tries ∈ lwW := lwW_in (List.mem_append_left _ (List.mem_of_getElem? (i := 27) (by decide +kernel))) rfl
theorem ms_28 : Cond.selects RX12 yX12_isDivisor yX12_isDivisor ∈ lwW := lwW_in (List.mem_append_left _ (List.mem_of_getElem? (i := 28) (by decide +kernel))) rfl
theorem ms_29 : Cond.selects RX12 yX12_isHead yX12_isHead ∈ lwW := lwW_in (List.mem_append_left _ (List.mem_of_getElem? (i := 29) (by decide +kernel))) rfl
theorem ms_30 : Cond.selects RX12 yX12_isEmpty yX12_isEmpty ∈ lwW := lwW_in (List.mem_append_left _ (List.mem_of_getElem? (i := 30) (by decide +kernel))) rfl
theorem ms_31 : Cond.selects RX12 yX12_norm yX12_norm ∈ lwW := lwW_in (List.mem_append_left _ (List.mem_of_getElem? (i := 31) (by decide +kernel))) rfl
theorem ms_32 : Cond.selects RX12 yX12_unitOf yX12_unitOf ∈ lwW := lwW_in (List.mem_append_left _ (List.mem_of_getElem? (i := 32) (by decide +kernel))) rfl
theorem ms_33 : Cond.selects RX12 yX12_content yX12_content ∈ lwW := lwW_in (List.mem_append_left _ (List.mem_of_getElem? (i := 33) (by decide +kernel))) rfl
theorem ms_34 : Cond.selects RX12 yX12_primesIn yX12_primesIn ∈ lwW := lwW_in (List.mem_append_left _ (List.mem_of_getElem? (i := 34) (by decide +kernel))) rfl
theorem ms_35 : Cond.selects RX12 yX12_chainsOf yX12_chainsOf ∈ lwW := lwW_in (List.mem_append_left _ (List.mem_of_getElem? (i := 35) (by decide +kernel))) rfl
theorem ms_36 : Cond.selects RX12 yX12_laysChain yX12_laysChain ∈ lwW := lwW_in (List.mem_append_left _ (List.mem_of_getElem? (i := 36) (by decide +kernel))) rfl
theorem ms_37 : Cond.selects RX12 yX12_becomes yX12_becomes ∈ lwW := lwW_in (List.mem_append_left _ (List.mem_of_getElem? (i := 37) (by decide +kernel))) rfl
theorem ms_38 : Cond.selects RX12 yX12_marks yX12_marks ∈ lwW := lwW_in (List.mem_append_left _ (List.mem_of_getElem? (i := 38) (by decide +kernel))) rfl
theorem ms_39 : Cond.selects RX12 yX12_heads yX12_heads ∈ lwW := lwW_in (List.mem_append_left _ (List.mem_of_getElem? (i := 39) (by decide +kernel))) rfl
theorem ms_40 : Cond.selects RX12 yX12_laysNearest yX12_laysNearest ∈ lwW := lwW_in (List.mem_append_left _ (List.mem_of_getElem? (i := 40) (by decide +kernel))) rfl
theorem ms_41 : Cond.selects RX12 yX12_triesNearest yX12_triesNearest ∈ lwW := lwW_in (List.mem_append_left _ (List.mem_of_getElem? (i := 41) (by decide +kernel))) rfl
theorem ms_42 : Cond.selects RX12 yX12_filled yX12_filled ∈ lwW := lwW_in (List.mem_append_left _ (List.mem_of_getElem? (i := 42) (by decide +kernel))) rfl
theorem ms_43 : Cond.selects RX12 yX12_tells yX12_tells ∈ lwW := lwW_in (List.mem_append_left _ (List.mem_of_getElem? (i := 43) (by decide +kernel))) rfl
theorem ms_44 : Cond.selects RX12 yX12_rowsOf yX12_rowsOf ∈ lwW := lwW_in (List.mem_append_left _ (List.mem_of_getElem? (i := 44) (by decide +kernel))) rfl
theorem ms_45 : Cond.selects RX12 yX12_isAhead yX12_isAhead ∈ lwW := lwW_in (List.mem_append_left _ (List.mem_of_getElem? (i := 45) (by decide +kernel))) rfl
theorem ms_46 : Cond.selects RX12 yX12_reads yX12_reads ∈ lwW := lwW_in (List.mem_append_left _ (List.mem_of_getElem? (i := 46) (by decide +kernel))) rfl
theorem ms_47 : Cond.selects RX12 yX12_readsClause yX12_readsClause ∈ lwW := lwW_in (List.mem_append_left _ (List.mem_of_getElem? (i := 47) (by decide +kernel))) rfl
theorem ms_48 : Cond.selects RX12 yX12_readsWord yX12_readsWord ∈ lwW := lwW_in (List.mem_append_left _ (List.mem_of_getElem? (i := 48) (by decide +kernel))) rfl
theorem ms_49 : Cond.selects RX12 yX12_looks yX12_looks ∈ lwW := lwW_in (List.mem_append_left _ (List.mem_of_getElem? (i := 49) (by decide +kernel))) rfl
theorem ms_50 : Cond.selects RX12 yX12_isWord yX12_isWord ∈ lwW := lwW_in (List.mem_append_left _ (List.mem_of_getElem? (i := 50) (by decide +kernel))) rfl
theorem ms_51 : Cond.selects RX12 yX12_isLetter yX12_isLetter ∈ lwW := lwW_in (List.mem_append_left _ (List.mem_of_getElem? (i := 51) (by decide +kernel))) rfl
theorem ms_52 : Cond.selects RX12 yX12_takes yX12_takes ∈ lwW := lwW_in (List.mem_append_left _ (List.mem_of_getElem? (i := 52) (by decide +kernel))) rfl
theorem ms_53 : Cond.selects RX12 yX12_figures yX12_figures ∈ lwW := lwW_in (List.mem_append_left _ (List.mem_of_getElem? (i := 53) (by decide +kernel))) rfl
theorem ms_54 : Cond.selects RX12 yX12_isFigure yX12_isFigure ∈ lwW := lwW_in (List.mem_append_left _ (List.mem_of_getElem? (i := 54) (by decide +kernel))) rfl
theorem ms_55 : Cond.selects RX12 yX12_takesPart yX12_takesPart ∈ lwW := lwW_in (List.mem_append_left _ (List.mem_of_getElem? (i := 55) (by decide +kernel))) rfl
theorem ms_56 : Cond.selects RX12 yX12_does yX12_does ∈ lwW := lwW_in (List.mem_append_left _ (List.mem_of_getElem? (i := 56) (by decide +kernel))) rfl
theorem ms_57 : Cond.selects RX12 yX12_lacks yX12_lacks ∈ lwW := lwW_in (List.mem_append_left _ (List.mem_of_getElem? (i := 57) (by decide +kernel))) rfl
theorem mw_1066 : Cond.methodLink RX12 177 yX12_isSlot ∈ lwW := lwW_at 1066 (by decide +kernel) rfl
theorem mw_1067 : Cond.static yX12_isSlot ∈ lwW := lwW_at 1067 (by decide +kernel) rfl
theorem mw_1068 : Cond.code yX12_isSlot cX12_isSlot 1 (some .boolean) ∈ lwW := lwW_at 1068 (by decide +kernel) rfl
theorem mw_1069 : Cond.methodLink RX12 155 yX12_in ∈ lwW := lwW_at 1069 (by decide +kernel) rfl
theorem mw_1070 : Cond.static yX12_in ∈ lwW := lwW_at 1070 (by decide +kernel) rfl
theorem mw_1071 : Cond.code yX12_in cX12_in 3 (some .boolean) ∈ lwW := lwW_at 1071 (by decide +kernel) rfl
theorem mw_1076 : Cond.methodLink RX12 163 yX12_isEmpty ∈ lwW := lwW_at 1076 (by decide +kernel) rfl
theorem mw_1078 : Cond.instanceMethod yX12_isEmpty ∈ lwW := lwW_at 1078 (by decide +kernel) rfl
theorem mw_1079 : Cond.code yX12_isEmpty cX12_isEmpty 2 (some .boolean) ∈ lwW := lwW_at 1079 (by decide +kernel) rfl
theorem mw_1080 : Cond.methodLink RX12 159 yX12_isNought ∈ lwW := lwW_at 1080 (by decide +kernel) rfl
theorem mw_1081 : Cond.static yX12_isNought ∈ lwW := lwW_at 1081 (by decide +kernel) rfl
theorem mw_1082 : Cond.code yX12_isNought cX12_isNought 2 (some .boolean) ∈ lwW := lwW_at 1082 (by decide +kernel) rfl
theorem mw_1083 : Cond.methodLink RX12 173 yX12_norm ∈ lwW := lwW_at 1083 (by decide +kernel) rfl
theorem mw_1085 : Cond.instanceMethod yX12_norm ∈ lwW := lwW_at 1085 (by decide +kernel) rfl
theorem mw_1086 : Cond.code yX12_norm cX12_norm 2 (some .int) ∈ lwW := lwW_at 1086 (by decide +kernel) rfl
theorem mw_1087 : Cond.methodLink RX12 187 yX12_unitOf ∈ lwW := lwW_at 1087 (by decide +kernel) rfl
theorem mw_1089 : Cond.instanceMethod yX12_unitOf ∈ lwW := lwW_at 1089 (by decide +kernel) rfl
theorem mw_1090 : Cond.code yX12_unitOf cX12_unitOf 3 (some .int) ∈ lwW := lwW_at 1090 (by decide +kernel) rfl
theorem mw_1091 : Cond.methodLink RX12 190 yX12_content ∈ lwW := lwW_at 1091 (by decide +kernel) rfl
theorem mw_1093 : Cond.instanceMethod yX12_content ∈ lwW := lwW_at 1093 (by decide +kernel) rfl
theorem mw_1094 : Cond.code yX12_content cX12_content 6 (some .int) ∈ lwW := lwW_at 1094 (by decide +kernel) rfl
theorem mw_1095 : Cond.methodLink RX12 193 yX12_primesIn ∈ lwW := lwW_at 1095 (by decide +kernel) rfl
theorem mw_1097 : Cond.instanceMethod yX12_primesIn ∈ lwW := lwW_at 1097 (by decide +kernel) rfl
theorem mw_1098 : Cond.code yX12_primesIn cX12_primesIn 5 (some .int) ∈ lwW := lwW_at 1098 (by decide +kernel) rfl
theorem mw_1099 : Cond.methodLink RX12 196 yX12_chainsOf ∈ lwW := lwW_at 1099 (by decide +kernel) rfl
theorem mw_1101 : Cond.instanceMethod yX12_chainsOf ∈ lwW := lwW_at 1101 (by decide +kernel) rfl
theorem mw_1102 : Cond.code yX12_chainsOf cX12_chainsOf 6 (some .int) ∈ lwW := lwW_at 1102 (by decide +kernel) rfl
theorem mw_1103 : Cond.methodLink RX12 183 yX12_laysChain ∈ lwW := lwW_at 1103 (by decide +kernel) rfl
theorem mw_1105 : Cond.instanceMethod yX12_laysChain ∈ lwW := lwW_at 1105 (by decide +kernel) rfl
theorem mw_1106 : Cond.code yX12_laysChain cX12_laysChain 4 none ∈ lwW := lwW_at 1106 (by decide +kernel) rfl
theorem mw_1107 : Cond.methodLink RX12 180 yX12_isPrime ∈ lwW := lwW_at 1107 (by decide +kernel) rfl
theorem mw_1108 : Cond.static yX12_isPrime ∈ lwW := lwW_at 1108 (by decide +kernel) rfl
theorem mw_1109 : Cond.code yX12_isPrime cX12_isPrime 3 (some .boolean) ∈ lwW := lwW_at 1109 (by decide +kernel) rfl
theorem mw_1118 : Cond.methodLink RX12 199 yX12_isSmall ∈ lwW := lwW_at 1118 (by decide +kernel) rfl
theorem mw_1119 : Cond.static yX12_isSmall ∈ lwW := lwW_at 1119 (by decide +kernel) rfl
theorem mw_1120 : Cond.code yX12_isSmall cX12_isSmall 3 (some .boolean) ∈ lwW := lwW_at 1120 (by decide +kernel) rfl
theorem mw_1121 : Cond.methodLink RX12 203 yX12_becomes ∈ lwW := lwW_at 1121 (by decide +kernel) rfl
theorem mw_1123 : Cond.instanceMethod yX12_becomes ∈ lwW := lwW_at 1123 (by decide +kernel) rfl
theorem mw_1124 : Cond.code yX12_becomes cX12_becomes 4 (some .int) ∈ lwW := lwW_at 1124 (by decide +kernel) rfl
theorem mw_1125 : Cond.methodLink RX12 170 yX12_marks ∈ lwW := lwW_at 1125 (by decide +kernel) rfl
theorem mw_1127 : Cond.instanceMethod yX12_marks ∈ lwW := lwW_at 1127 (by decide +kernel) rfl
theorem mw_1128 : Cond.code yX12_marks cX12_marks 2 none ∈ lwW := lwW_at 1128 (by decide +kernel) rfl
theorem mw_1137 : Cond.methodLink RX12 207 yX12_isSide ∈ lwW := lwW_at 1137 (by decide +kernel) rfl
theorem mw_1138 : Cond.static yX12_isSide ∈ lwW := lwW_at 1138 (by decide +kernel) rfl
theorem mw_1139 : Cond.code yX12_isSide cX12_isSide 1 (some .boolean) ∈ lwW := lwW_at 1139 (by decide +kernel) rfl
theorem mw_1144 : Cond.methodLink RX12 210 yX12_heads ∈ lwW := lwW_at 1144 (by decide +kernel) rfl
theorem mw_1146 : Cond.instanceMethod yX12_heads ∈ lwW := lwW_at 1146 (by decide +kernel) rfl
theorem mw_1147 : Cond.code yX12_heads cX12_heads 4 none ∈ lwW := lwW_at 1147 (by decide +kernel) rfl
theorem mw_1152 : Cond.methodLink RX12 214 yX12_laysNearest ∈ lwW := lwW_at 1152 (by decide +kernel) rfl
theorem mw_1154 : Cond.instanceMethod yX12_laysNearest ∈ lwW := lwW_at 1154 (by decide +kernel) rfl
theorem mw_1155 : Cond.code yX12_laysNearest cX12_laysNearest 11 none ∈ lwW := lwW_at 1155 (by decide +kernel) rfl
theorem mw_1156 : Cond.methodLink RX12 147 yX12_down ∈ lwW := lwW_at 1156 (by decide +kernel) rfl
theorem mw_1157 : Cond.static yX12_down ∈ lwW := lwW_at 1157 (by decide +kernel) rfl
theorem mw_1158 : Cond.code yX12_down cX12_down 2 (some .int) ∈ lwW := lwW_at 1158 (by decide +kernel) rfl
theorem mw_1159 : Cond.methodLink RX12 151 yX12_triesNearest ∈ lwW := lwW_at 1159 (by decide +kernel) rfl
theorem mw_1161 : Cond.instanceMethod yX12_triesNearest ∈ lwW := lwW_at 1161 (by decide +kernel) rfl
theorem mw_1162 : Cond.code yX12_triesNearest cX12_triesNearest 9 none ∈ lwW := lwW_at 1162 (by decide +kernel) rfl
theorem mw_1175 : Cond.methodLink RX12 218 yX12_filled ∈ lwW := lwW_at 1175 (by decide +kernel) rfl
theorem mw_1177 : Cond.instanceMethod yX12_filled ∈ lwW := lwW_at 1177 (by decide +kernel) rfl
theorem mw_1178 : Cond.code yX12_filled cX12_filled 3 (some .int) ∈ lwW := lwW_at 1178 (by decide +kernel) rfl
theorem mw_1203 : Cond.methodLink RX12 222 yX12_leastPrime ∈ lwW := lwW_at 1203 (by decide +kernel) rfl
theorem mw_1204 : Cond.static yX12_leastPrime ∈ lwW := lwW_at 1204 (by decide +kernel) rfl
theorem mw_1205 : Cond.code yX12_leastPrime cX12_leastPrime 2 (some .int) ∈ lwW := lwW_at 1205 (by decide +kernel) rfl
theorem mw_1210 : Cond.methodLink RX12 225 yX12_tells ∈ lwW := lwW_at 1210 (by decide +kernel) rfl
theorem mw_1212 : Cond.instanceMethod yX12_tells ∈ lwW := lwW_at 1212 (by decide +kernel) rfl
theorem mw_1213 : Cond.code yX12_tells cX12_tells 3 (some .int) ∈ lwW := lwW_at 1213 (by decide +kernel) rfl
theorem mw_1222 : Cond.methodLink RX12 231 yX12_rowsOf ∈ lwW := lwW_at 1222 (by decide +kernel) rfl
theorem mw_1224 : Cond.instanceMethod yX12_rowsOf ∈ lwW := lwW_at 1224 (by decide +kernel) rfl
theorem mw_1225 : Cond.code yX12_rowsOf cX12_rowsOf 11 (some .int) ∈ lwW := lwW_at 1225 (by decide +kernel) rfl
theorem mw_1226 : Cond.methodLink RX12 228 yX12_isBase ∈ lwW := lwW_at 1226 (by decide +kernel) rfl
theorem mw_1227 : Cond.static yX12_isBase ∈ lwW := lwW_at 1227 (by decide +kernel) rfl
theorem mw_1228 : Cond.code yX12_isBase cX12_isBase 4 (some .boolean) ∈ lwW := lwW_at 1228 (by decide +kernel) rfl
theorem mw_1237 : Cond.methodLink RX12 235 yX12_isAhead ∈ lwW := lwW_at 1237 (by decide +kernel) rfl
theorem mw_1239 : Cond.instanceMethod yX12_isAhead ∈ lwW := lwW_at 1239 (by decide +kernel) rfl
theorem mw_1240 : Cond.code yX12_isAhead cX12_isAhead 3 (some .boolean) ∈ lwW := lwW_at 1240 (by decide +kernel) rfl
theorem mw_1253 : Cond.methodLink RX12 276 yX12_reads ∈ lwW := lwW_at 1253 (by decide +kernel) rfl
theorem mw_1255 : Cond.instanceMethod yX12_reads ∈ lwW := lwW_at 1255 (by decide +kernel) rfl
theorem mw_1256 : Cond.code yX12_reads cX12_reads 4 (some .int) ∈ lwW := lwW_at 1256 (by decide +kernel) rfl
theorem mw_1257 : Cond.methodLink RX12 273 yX12_readsClause ∈ lwW := lwW_at 1257 (by decide +kernel) rfl
theorem mw_1259 : Cond.instanceMethod yX12_readsClause ∈ lwW := lwW_at 1259 (by decide +kernel) rfl
theorem mw_1260 : Cond.code yX12_readsClause cX12_readsClause 4 none ∈ lwW := lwW_at 1260 (by decide +kernel) rfl
theorem mw_1261 : Cond.methodLink RX12 264 yX12_readsWord ∈ lwW := lwW_at 1261 (by decide +kernel) rfl
theorem mw_1263 : Cond.instanceMethod yX12_readsWord ∈ lwW := lwW_at 1263 (by decide +kernel) rfl
theorem mw_1264 : Cond.code yX12_readsWord cX12_readsWord 2 (some .int) ∈ lwW := lwW_at 1264 (by decide +kernel) rfl
theorem mw_1265 : Cond.methodLink RX12 248 yX12_looks ∈ lwW := lwW_at 1265 (by decide +kernel) rfl
theorem mw_1267 : Cond.instanceMethod yX12_looks ∈ lwW := lwW_at 1267 (by decide +kernel) rfl
theorem mw_1268 : Cond.code yX12_looks cX12_looks 1 (some .int) ∈ lwW := lwW_at 1268 (by decide +kernel) rfl
theorem mw_1269 : Cond.methodLink RX12 251 yX12_isWord ∈ lwW := lwW_at 1269 (by decide +kernel) rfl
theorem mw_1271 : Cond.instanceMethod yX12_isWord ∈ lwW := lwW_at 1271 (by decide +kernel) rfl
theorem mw_1272 : Cond.code yX12_isWord cX12_isWord 7 (some .boolean) ∈ lwW := lwW_at 1272 (by decide +kernel) rfl
theorem mw_1273 : Cond.methodLink RX12 245 yX12_isLetter ∈ lwW := lwW_at 1273 (by decide +kernel) rfl
theorem mw_1275 : Cond.instanceMethod yX12_isLetter ∈ lwW := lwW_at 1275 (by decide +kernel) rfl
theorem mw_1276 : Cond.code yX12_isLetter cX12_isLetter 2 (some .boolean) ∈ lwW := lwW_at 1276 (by decide +kernel) rfl
theorem mw_1277 : Cond.methodLink RX12 267 yX12_takes ∈ lwW := lwW_at 1277 (by decide +kernel) rfl
theorem mw_1279 : Cond.instanceMethod yX12_takes ∈ lwW := lwW_at 1279 (by decide +kernel) rfl
theorem mw_1280 : Cond.code yX12_takes cX12_takes 3 none ∈ lwW := lwW_at 1280 (by decide +kernel) rfl
theorem mw_1281 : Cond.methodLink RX12 261 yX12_figures ∈ lwW := lwW_at 1281 (by decide +kernel) rfl
theorem mw_1283 : Cond.instanceMethod yX12_figures ∈ lwW := lwW_at 1283 (by decide +kernel) rfl
theorem mw_1284 : Cond.code yX12_figures cX12_figures 4 (some .int) ∈ lwW := lwW_at 1284 (by decide +kernel) rfl
theorem mw_1285 : Cond.methodLink RX12 258 yX12_isFigure ∈ lwW := lwW_at 1285 (by decide +kernel) rfl
theorem mw_1287 : Cond.instanceMethod yX12_isFigure ∈ lwW := lwW_at 1287 (by decide +kernel) rfl
theorem mw_1288 : Cond.code yX12_isFigure cX12_isFigure 2 (some .boolean) ∈ lwW := lwW_at 1288 (by decide +kernel) rfl
theorem mw_1289 : Cond.methodLink RX12 270 yX12_takesPart ∈ lwW := lwW_at 1289 (by decide +kernel) rfl
theorem mw_1291 : Cond.instanceMethod yX12_takesPart ∈ lwW := lwW_at 1291 (by decide +kernel) rfl
theorem mw_1292 : Cond.code yX12_takesPart cX12_takesPart 7 none ∈ lwW := lwW_at 1292 (by decide +kernel) rfl
theorem mw_1297 : Cond.methodLink RX12 279 yX12_does ∈ lwW := lwW_at 1297 (by decide +kernel) rfl
theorem mw_1299 : Cond.instanceMethod yX12_does ∈ lwW := lwW_at 1299 (by decide +kernel) rfl
theorem mw_1300 : Cond.code yX12_does cX12_does 4 none ∈ lwW := lwW_at 1300 (by decide +kernel) rfl
theorem mw_1305 : Cond.methodLink RX12 282 yX12_isTally ∈ lwW := lwW_at 1305 (by decide +kernel) rfl
theorem mw_1306 : Cond.static yX12_isTally ∈ lwW := lwW_at 1306 (by decide +kernel) rfl
theorem mw_1307 : Cond.code yX12_isTally cX12_isTally 1 (some .boolean) ∈ lwW := lwW_at 1307 (by decide +kernel) rfl
theorem mw_1312 : Cond.methodLink RX12 285 yX12_lacks ∈ lwW := lwW_at 1312 (by decide +kernel) rfl
theorem mw_1314 : Cond.instanceMethod yX12_lacks ∈ lwW := lwW_at 1314 (by decide +kernel) rfl
theorem mw_1315 : Cond.code yX12_lacks cX12_lacks 3 (some .int) ∈ lwW := lwW_at 1315 (by decide +kernel) rfl
theorem mw_1320 : Cond.methodLink RX12 288 yX12_worked ∈ lwW := lwW_at 1320 (by decide +kernel) rfl
theorem mw_1321 : Cond.static yX12_worked ∈ lwW := lwW_at 1321 (by decide +kernel) rfl
theorem mw_1322 : Cond.code yX12_worked cX12_worked 5 (some .long) ∈ lwW := lwW_at 1322 (by decide +kernel) rfl
theorem mw_14 : Cond.initialized RX12 ∈ lwW := lwW_at 14 (by decide +kernel) rfl
theorem mw_917 : Cond.methodLink RX12 99 yX12_gathers ∈ lwW := lwW_at 917 (by decide +kernel) rfl
theorem mw_919 : Cond.instanceMethod yX12_gathers ∈ lwW := lwW_at 919 (by decide +kernel) rfl
theorem mw_920 : Cond.code yX12_gathers cX12_gathers 12 none ∈ lwW := lwW_at 920 (by decide +kernel) rfl
theorem mw_921 : Cond.methodLink RX12 143 yX12_triesLast ∈ lwW := lwW_at 921 (by decide +kernel) rfl
theorem mw_923 : Cond.instanceMethod yX12_triesLast ∈ lwW := lwW_at 923 (by decide +kernel) rfl
theorem mw_924 : Cond.code yX12_triesLast cX12_triesLast 5 none ∈ lwW := lwW_at 924 (by decide +kernel) rfl
theorem mw_925 : Cond.methodLink RX12 119 yX12_areLike ∈ lwW := lwW_at 925 (by decide +kernel) rfl
theorem mw_926 : Cond.static yX12_areLike ∈ lwW := lwW_at 926 (by decide +kernel) rfl
theorem mw_927 : Cond.code yX12_areLike cX12_areLike 4 (some .boolean) ∈ lwW := lwW_at 927 (by decide +kernel) rfl
theorem mw_928 : Cond.methodLink RX12 139 yX12_tries ∈ lwW := lwW_at 928 (by decide +kernel) rfl
theorem mw_930 : Cond.instanceMethod yX12_tries ∈ lwW := lwW_at 930 (by decide +kernel) rfl
theorem mw_931 : Cond.code yX12_tries cX12_tries 5 none ∈ lwW := lwW_at 931 (by decide +kernel) rfl
theorem mw_932 : Cond.methodLink RX12 127 yX12_isDivisor ∈ lwW := lwW_at 932 (by decide +kernel) rfl
theorem mw_934 : Cond.instanceMethod yX12_isDivisor ∈ lwW := lwW_at 934 (by decide +kernel) rfl
theorem mw_935 : Cond.code yX12_isDivisor cX12_isDivisor 9 (some .boolean) ∈ lwW := lwW_at 935 (by decide +kernel) rfl
theorem mw_936 : Cond.methodLink RX12 107 yX12_normOf ∈ lwW := lwW_at 936 (by decide +kernel) rfl
theorem mw_937 : Cond.static yX12_normOf ∈ lwW := lwW_at 937 (by decide +kernel) rfl
theorem mw_938 : Cond.code yX12_normOf cX12_normOf 2 (some .int) ∈ lwW := lwW_at 938 (by decide +kernel) rfl
theorem mw_939 : Cond.methodLink RX12 111 yX12_conjugates ∈ lwW := lwW_at 939 (by decide +kernel) rfl
theorem mw_940 : Cond.static yX12_conjugates ∈ lwW := lwW_at 940 (by decide +kernel) rfl
theorem mw_941 : Cond.code yX12_conjugates cX12_conjugates 3 none ∈ lwW := lwW_at 941 (by decide +kernel) rfl
theorem mw_942 : Cond.methodLink RX12 115 yX12_makes ∈ lwW := lwW_at 942 (by decide +kernel) rfl
theorem mw_943 : Cond.static yX12_makes ∈ lwW := lwW_at 943 (by decide +kernel) rfl
theorem mw_944 : Cond.code yX12_makes cX12_makes 6 none ∈ lwW := lwW_at 944 (by decide +kernel) rfl
theorem mw_945 : Cond.methodLink RX12 103 yX12_product ∈ lwW := lwW_at 945 (by decide +kernel) rfl
theorem mw_946 : Cond.static yX12_product ∈ lwW := lwW_at 946 (by decide +kernel) rfl
theorem mw_947 : Cond.code yX12_product cX12_product 13 none ∈ lwW := lwW_at 947 (by decide +kernel) rfl
theorem mw_948 : Cond.methodLink RX12 131 yX12_isHead ∈ lwW := lwW_at 948 (by decide +kernel) rfl
theorem mw_950 : Cond.instanceMethod yX12_isHead ∈ lwW := lwW_at 950 (by decide +kernel) rfl
theorem mw_951 : Cond.code yX12_isHead cX12_isHead 6 (some .boolean) ∈ lwW := lwW_at 951 (by decide +kernel) rfl
theorem mw_952 : Cond.methodLink RX12 123 yX12_isGreater ∈ lwW := lwW_at 952 (by decide +kernel) rfl
theorem mw_953 : Cond.static yX12_isGreater ∈ lwW := lwW_at 953 (by decide +kernel) rfl
theorem mw_954 : Cond.code yX12_isGreater cX12_isGreater 5 (some .boolean) ∈ lwW := lwW_at 954 (by decide +kernel) rfl
theorem mw_955 : Cond.methodLink RX12 135 yX12_copies ∈ lwW := lwW_at 955 (by decide +kernel) rfl
theorem mw_956 : Cond.static yX12_copies ∈ lwW := lwW_at 956 (by decide +kernel) rfl
theorem mw_957 : Cond.code yX12_copies cX12_copies 5 none ∈ lwW := lwW_at 957 (by decide +kernel) rfl
theorem mw_958 : Cond.fieldLink RX12 7 "QuaternionDeskModel" "root" "[I" ∈ lwW := lwW_at 958 (by decide +kernel) rfl
theorem mw_959 : Cond.fieldLink RX12 13 "QuaternionDeskModel" "units" "[I" ∈ lwW := lwW_at 959 (by decide +kernel) rfl
theorem mw_960 : Cond.fieldLink RX12 16 "QuaternionDeskModel" "turnedRound" "[I" ∈ lwW := lwW_at 960 (by decide +kernel) rfl
theorem mw_961 : Cond.fieldLink RX12 19 "QuaternionDeskModel" "quotient" "[I" ∈ lwW := lwW_at 961 (by decide +kernel) rfl
theorem mw_962 : Cond.fieldLink RX12 22 "QuaternionDeskModel" "mate" "[I" ∈ lwW := lwW_at 962 (by decide +kernel) rfl
theorem mw_963 : Cond.fieldLink RX12 25 "QuaternionDeskModel" "found" "[I" ∈ lwW := lwW_at 963 (by decide +kernel) rfl
theorem mw_964 : Cond.fieldLink RX12 95 "QuaternionDeskModel" "many" "I" ∈ lwW := lwW_at 964 (by decide +kernel) rfl
theorem mw_965 : Cond.fieldLink RX12 28 "QuaternionDeskModel" "now" "[I" ∈ lwW := lwW_at 965 (by decide +kernel) rfl
theorem mw_966 : Cond.fieldLink RX12 31 "QuaternionDeskModel" "target" "[I" ∈ lwW := lwW_at 966 (by decide +kernel) rfl
theorem mw_967 : Cond.fieldLink RX12 34 "QuaternionDeskModel" "nearX" "[I" ∈ lwW := lwW_at 967 (by decide +kernel) rfl
theorem mw_968 : Cond.fieldLink RX12 37 "QuaternionDeskModel" "nearRest" "[I" ∈ lwW := lwW_at 968 (by decide +kernel) rfl
theorem mw_969 : Cond.fieldLink RX12 40 "QuaternionDeskModel" "tried" "[I" ∈ lwW := lwW_at 969 (by decide +kernel) rfl
theorem mw_970 : Cond.fieldLink RX12 43 "QuaternionDeskModel" "made" "[I" ∈ lwW := lwW_at 970 (by decide +kernel) rfl
theorem mw_971 : Cond.fieldLink RX12 46 "QuaternionDeskModel" "from" "[I" ∈ lwW := lwW_at 971 (by decide +kernel) rfl
theorem mw_972 : Cond.fieldLink RX12 49 "QuaternionDeskModel" "slots" "[I" ∈ lwW := lwW_at 972 (by decide +kernel) rfl
theorem mw_973 : Cond.fieldLink RX12 167 "QuaternionDeskModel" "acts" "I" ∈ lwW := lwW_at 973 (by decide +kernel) rfl
theorem mw_974 : Cond.fieldLink RX12 52 "QuaternionDeskModel" "past" "[I" ∈ lwW := lwW_at 974 (by decide +kernel) rfl
theorem mw_975 : Cond.fieldLink RX12 55 "QuaternionDeskModel" "isKept" "[Z" ∈ lwW := lwW_at 975 (by decide +kernel) rfl
theorem mw_976 : Cond.fieldLink RX12 59 "QuaternionDeskModel" "kept" "[I" ∈ lwW := lwW_at 976 (by decide +kernel) rfl
theorem mw_977 : Cond.fieldLink RX12 62 "QuaternionDeskModel" "divisorNorm" "[I" ∈ lwW := lwW_at 977 (by decide +kernel) rfl
theorem mw_978 : Cond.fieldLink RX12 65 "QuaternionDeskModel" "chains" "[I" ∈ lwW := lwW_at 978 (by decide +kernel) rfl
theorem mw_979 : Cond.fieldLink RX12 68 "QuaternionDeskModel" "one" "[I" ∈ lwW := lwW_at 979 (by decide +kernel) rfl
theorem mw_980 : Cond.fieldLink RX12 71 "QuaternionDeskModel" "other" "[I" ∈ lwW := lwW_at 980 (by decide +kernel) rfl
theorem mw_981 : Cond.fieldLink RX12 74 "QuaternionDeskModel" "first" "[I" ∈ lwW := lwW_at 981 (by decide +kernel) rfl
theorem mw_982 : Cond.fieldLink RX12 77 "QuaternionDeskModel" "second" "[I" ∈ lwW := lwW_at 982 (by decide +kernel) rfl
theorem mw_983 : Cond.fieldLink RX12 80 "QuaternionDeskModel" "text" "[I" ∈ lwW := lwW_at 983 (by decide +kernel) rfl
theorem mw_984 : Cond.fieldLink RX12 239 "QuaternionDeskModel" "letters" "I" ∈ lwW := lwW_at 984 (by decide +kernel) rfl
theorem mw_985 : Cond.fieldLink RX12 242 "QuaternionDeskModel" "readAt" "I" ∈ lwW := lwW_at 985 (by decide +kernel) rfl
theorem mw_986 : Cond.fieldLink RX12 254 "QuaternionDeskModel" "isFault" "Z" ∈ lwW := lwW_at 986 (by decide +kernel) rfl
theorem mw_987 : Cond.fieldLink RX12 83 "QuaternionDeskModel" "clause" "[I" ∈ lwW := lwW_at 987 (by decide +kernel) rfl
theorem mw_988 : Cond.fieldLink RX12 86 "QuaternionDeskModel" "told" "[I" ∈ lwW := lwW_at 988 (by decide +kernel) rfl
theorem mw_989 : Cond.fieldLink RX12 89 "QuaternionDeskModel" "tallySize" "[I" ∈ lwW := lwW_at 989 (by decide +kernel) rfl
theorem mw_990 : Cond.fieldLink RX12 92 "QuaternionDeskModel" "tallies" "[I" ∈ lwW := lwW_at 990 (by decide +kernel) rfl
theorem mw_991 : Cond.fieldLink RX12 292 "QuaternionDeskModel" "latest" "I" ∈ lwW := lwW_at 991 (by decide +kernel) rfl
