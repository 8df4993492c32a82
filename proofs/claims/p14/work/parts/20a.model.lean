theorem ncq_8 : "LinearTruthsModel" ≠ "java/lang/invoke/MethodHandle" ∧ "LinearTruthsModel" ≠ "java/lang/invoke/VarHandle" := by decide +kernel
theorem pdq_28 : (parseMethodDescriptor "(ZII)I").map (fun d => d.parameters.length) = some 3 := by decide +kernel
theorem pdq_29 : (parseMethodDescriptor "(JJ)J").map (fun d => d.parameters.length) = some 2 := by decide +kernel
theorem pdq_30 : (parseMethodDescriptor "(IIIZI)I").map (fun d => d.parameters.length) = some 5 := by decide +kernel
theorem pdq_31 : (parseMethodDescriptor "(J)V").map (fun d => d.parameters.length) = some 1 := by decide +kernel
theorem pdq_32 : (parseMethodDescriptor "(III)I").map (fun d => d.parameters.length) = some 3 := by decide +kernel
theorem pdq_33 : (parseMethodDescriptor "(JZ)V").map (fun d => d.parameters.length) = some 2 := by decide +kernel
theorem pdq_34 : (parseMethodDescriptor "(Z)I").map (fun d => d.parameters.length) = some 1 := by decide +kernel
theorem inW_X7 : ∀ w ∈ u_ws RX7 TX7 34, w ∈ W0 := q_ls [(5, 96), (5, 98), (5, 100), (5, 102), (5, 104), (5, 106), (5, 108), (5, 110), (5, 112), (5, 114), (5, 116), (5, 118), (5, 120), (5, 122), (5, 124), (5, 126), (5, 128), (5, 130), (5, 132), (5, 134), (5, 136), (5, 138), (5, 140), (5, 142), (5, 144), (5, 146), (5, 148), (5, 150), (5, 152), (5, 154), (5, 156), (5, 158), (5, 160), (5, 162)] (by decide +kernel) (by decide +kernel)
theorem wm_1081 : (Cond.constant "LinearTruthsModel" 29 65536) ∈ W0 := q_l 5 51 (by decide +kernel) (by decide +kernel)
theorem wm_1082 : (Cond.methodLink "LinearTruthsModel" 68 yX7_place) ∈ W0 := q_l 5 52 (by decide +kernel) (by decide +kernel)
theorem wm_1086 : (Cond.methodLink "LinearTruthsModel" 81 yX7_hashOf) ∈ W0 := q_l 5 56 (by decide +kernel) (by decide +kernel)
theorem wm_1090 : (Cond.constant "LinearTruthsModel" 79 1000003) ∈ W0 := q_l 5 60 (by decide +kernel) (by decide +kernel)
theorem wm_1091 : (Cond.constant "LinearTruthsModel" 80 65535) ∈ W0 := q_l 5 61 (by decide +kernel) (by decide +kernel)
theorem wm_1092 : (Cond.fieldLink "LinearTruthsModel" 76 "LinearTruthsModel" "thrown" "I") ∈ W0 := q_l 5 62 (by decide +kernel) (by decide +kernel)
theorem wm_1093 : (Cond.fieldLink "LinearTruthsModel" 7 "LinearTruthsModel" "kind" "[I") ∈ W0 := q_l 5 63 (by decide +kernel) (by decide +kernel)
theorem wm_1094 : (Cond.fieldLink "LinearTruthsModel" 13 "LinearTruthsModel" "left" "[I") ∈ W0 := q_l 5 64 (by decide +kernel) (by decide +kernel)
theorem wm_1095 : (Cond.fieldLink "LinearTruthsModel" 16 "LinearTruthsModel" "right" "[I") ∈ W0 := q_l 5 65 (by decide +kernel) (by decide +kernel)
theorem wm_1096 : (Cond.fieldLink "LinearTruthsModel" 19 "LinearTruthsModel" "many" "[I") ∈ W0 := q_l 5 66 (by decide +kernel) (by decide +kernel)
theorem wm_1097 : (Cond.fieldLink "LinearTruthsModel" 22 "LinearTruthsModel" "bits" "[I") ∈ W0 := q_l 5 67 (by decide +kernel) (by decide +kernel)
theorem wm_1098 : (Cond.fieldLink "LinearTruthsModel" 26 "LinearTruthsModel" "rows" "[I") ∈ W0 := q_l 5 68 (by decide +kernel) (by decide +kernel)
theorem wm_1099 : (Cond.fieldLink "LinearTruthsModel" 30 "LinearTruthsModel" "table" "[I") ∈ W0 := q_l 5 69 (by decide +kernel) (by decide +kernel)
theorem wm_1100 : (Cond.fieldLink "LinearTruthsModel" 85 "LinearTruthsModel" "used" "I") ∈ W0 := q_l 5 70 (by decide +kernel) (by decide +kernel)
theorem wm_1101 : (Cond.fieldLink "LinearTruthsModel" 33 "LinearTruthsModel" "roots" "[I") ∈ W0 := q_l 5 71 (by decide +kernel) (by decide +kernel)
theorem wm_1102 : (Cond.fieldLink "LinearTruthsModel" 72 "LinearTruthsModel" "rooted" "I") ∈ W0 := q_l 5 72 (by decide +kernel) (by decide +kernel)
theorem wm_1103 : (Cond.fieldLink "LinearTruthsModel" 36 "LinearTruthsModel" "moved" "[I") ∈ W0 := q_l 5 73 (by decide +kernel) (by decide +kernel)
theorem wm_1104 : (Cond.fieldLink "LinearTruthsModel" 39 "LinearTruthsModel" "text" "[B") ∈ W0 := q_l 5 74 (by decide +kernel) (by decide +kernel)
theorem wm_1105 : (Cond.fieldLink "LinearTruthsModel" 118 "LinearTruthsModel" "size" "I") ∈ W0 := q_l 5 75 (by decide +kernel) (by decide +kernel)
theorem wm_1106 : (Cond.fieldLink "LinearTruthsModel" 43 "LinearTruthsModel" "out" "[B") ∈ W0 := q_l 5 76 (by decide +kernel) (by decide +kernel)
theorem wm_1107 : (Cond.fieldLink "LinearTruthsModel" 241 "LinearTruthsModel" "outSize" "I") ∈ W0 := q_l 5 77 (by decide +kernel) (by decide +kernel)
theorem wm_1108 : (Cond.fieldLink "LinearTruthsModel" 46 "LinearTruthsModel" "above" "[I") ∈ W0 := q_l 5 78 (by decide +kernel) (by decide +kernel)
theorem wm_1109 : (Cond.fieldLink "LinearTruthsModel" 49 "LinearTruthsModel" "below" "[I") ∈ W0 := q_l 5 79 (by decide +kernel) (by decide +kernel)
theorem wm_1110 : (Cond.fieldLink "LinearTruthsModel" 213 "LinearTruthsModel" "points" "I") ∈ W0 := q_l 5 80 (by decide +kernel) (by decide +kernel)
theorem wm_1111 : (Cond.fieldLink "LinearTruthsModel" 207 "LinearTruthsModel" "takenOut" "I") ∈ W0 := q_l 5 81 (by decide +kernel) (by decide +kernel)
theorem wm_1112 : (Cond.fieldLink "LinearTruthsModel" 99 "LinearTruthsModel" "great" "Z") ∈ W0 := q_l 5 82 (by decide +kernel) (by decide +kernel)
theorem wm_1113 : (Cond.fieldLink "LinearTruthsModel" 52 "LinearTruthsModel" "row" "[J") ∈ W0 := q_l 5 83 (by decide +kernel) (by decide +kernel)
theorem wm_1114 : (Cond.fieldLink "LinearTruthsModel" 115 "LinearTruthsModel" "at" "I") ∈ W0 := q_l 5 84 (by decide +kernel) (by decide +kernel)
theorem wm_1115 : (Cond.fieldLink "LinearTruthsModel" 128 "LinearTruthsModel" "fault" "I") ∈ W0 := q_l 5 85 (by decide +kernel) (by decide +kernel)
theorem wm_1116 : (Cond.fieldLink "LinearTruthsModel" 152 "LinearTruthsModel" "open" "I") ∈ W0 := q_l 5 86 (by decide +kernel) (by decide +kernel)
theorem wm_1117 : (Cond.fieldLink "LinearTruthsModel" 125 "LinearTruthsModel" "wrong" "Z") ∈ W0 := q_l 5 87 (by decide +kernel) (by decide +kernel)
theorem wm_1118 : (Cond.fieldLink "LinearTruthsModel" 56 "LinearTruthsModel" "sum" "[J") ∈ W0 := q_l 5 88 (by decide +kernel) (by decide +kernel)
theorem wm_1119 : (Cond.fieldLink "LinearTruthsModel" 59 "LinearTruthsModel" "point" "[J") ∈ W0 := q_l 5 89 (by decide +kernel) (by decide +kernel)
theorem wm_1120 : (Cond.fieldLink "LinearTruthsModel" 190 "LinearTruthsModel" "by" "J") ∈ W0 := q_l 5 90 (by decide +kernel) (by decide +kernel)
theorem wm_1121 : (Cond.fieldLink "LinearTruthsModel" 187 "LinearTruthsModel" "sort" "I") ∈ W0 := q_l 5 91 (by decide +kernel) (by decide +kernel)
theorem wm_1122 : (Cond.fieldLink "LinearTruthsModel" 184 "LinearTruthsModel" "variable" "I") ∈ W0 := q_l 5 92 (by decide +kernel) (by decide +kernel)
theorem wm_1123 : (Cond.fieldLink "LinearTruthsModel" 62 "LinearTruthsModel" "pointRows" "[I") ∈ W0 := q_l 5 93 (by decide +kernel) (by decide +kernel)
theorem wm_1124 : (Cond.fieldLink "LinearTruthsModel" 65 "LinearTruthsModel" "pointSorts" "[I") ∈ W0 := q_l 5 94 (by decide +kernel) (by decide +kernel)
theorem wm_1125 : (Cond.fieldLink "LinearTruthsModel" 204 "LinearTruthsModel" "pointCount" "I") ∈ W0 := q_l 5 95 (by decide +kernel) (by decide +kernel)
theorem wm_1199 : (Cond.methodLink "LinearTruthsModel" 88 yX7_sweep) ∈ W0 := q_l 5 169 (by decide +kernel) (by decide +kernel)
theorem wm_1203 : (Cond.methodLink "LinearTruthsModel" 140 yX7_formula) ∈ W0 := q_l 5 173 (by decide +kernel) (by decide +kernel)
theorem wm_1207 : (Cond.methodLink "LinearTruthsModel" 131 yX7_alternatives) ∈ W0 := q_l 5 177 (by decide +kernel) (by decide +kernel)
theorem wm_1211 : (Cond.methodLink "LinearTruthsModel" 143 yX7_conditions) ∈ W0 := q_l 5 181 (by decide +kernel) (by decide +kernel)
theorem wm_1215 : (Cond.methodLink "LinearTruthsModel" 146 yX7_unit) ∈ W0 := q_l 5 185 (by decide +kernel) (by decide +kernel)
theorem wm_1219 : (Cond.methodLink "LinearTruthsModel" 134 yX7_blanks) ∈ W0 := q_l 5 189 (by decide +kernel) (by decide +kernel)
theorem wm_1223 : (Cond.methodLink "LinearTruthsModel" 121 yX7_peek) ∈ W0 := q_l 5 193 (by decide +kernel) (by decide +kernel)
theorem wm_1227 : (Cond.methodLink "LinearTruthsModel" 95 yX7_truth) ∈ W0 := q_l 5 197 (by decide +kernel) (by decide +kernel)
theorem wm_1231 : (Cond.methodLink "LinearTruthsModel" 149 yX7_relation) ∈ W0 := q_l 5 201 (by decide +kernel) (by decide +kernel)
theorem wm_1235 : (Cond.methodLink "LinearTruthsModel" 162 yX7_side) ∈ W0 := q_l 5 205 (by decide +kernel) (by decide +kernel)
theorem wm_1239 : (Cond.methodLink "LinearTruthsModel" 171 yX7_item) ∈ W0 := q_l 5 209 (by decide +kernel) (by decide +kernel)
theorem wm_1243 : (Cond.methodLink "LinearTruthsModel" 155 yX7_isVariable) ∈ W0 := q_l 5 213 (by decide +kernel) (by decide +kernel)
theorem wm_1246 : (Cond.constantLong "LinearTruthsModel" 175 27720) ∈ W0 := q_l 5 216 (by decide +kernel) (by decide +kernel)
theorem wm_1247 : (Cond.methodLink "LinearTruthsModel" 177 yX7_isDigit) ∈ W0 := q_l 5 217 (by decide +kernel) (by decide +kernel)
theorem wm_1250 : (Cond.methodLink "LinearTruthsModel" 137 yX7_fail) ∈ W0 := q_l 5 220 (by decide +kernel) (by decide +kernel)
theorem wm_1254 : (Cond.constantLong "LinearTruthsModel" 180 10) ∈ W0 := q_l 5 224 (by decide +kernel) (by decide +kernel)
theorem wm_1255 : (Cond.constantLong "LinearTruthsModel" 182 48) ∈ W0 := q_l 5 225 (by decide +kernel) (by decide +kernel)
theorem wm_1256 : (Cond.constantLong "LinearTruthsModel" 166 (-1)) ∈ W0 := q_l 5 226 (by decide +kernel) (by decide +kernel)
theorem wm_1257 : (Cond.methodLink "LinearTruthsModel" 168 yX7_atom) ∈ W0 := q_l 5 227 (by decide +kernel) (by decide +kernel)
theorem wm_1261 : (Cond.methodLink "LinearTruthsModel" 91 yX7_divisor) ∈ W0 := q_l 5 231 (by decide +kernel) (by decide +kernel)
theorem wm_1264 : (Cond.constantLong "LinearTruthsModel" 103 1000000000) ∈ W0 := q_l 5 234 (by decide +kernel) (by decide +kernel)
theorem wm_1265 : (Cond.constantLong "LinearTruthsModel" 105 (-1000000000)) ∈ W0 := q_l 5 235 (by decide +kernel) (by decide +kernel)
theorem wm_1266 : (Cond.methodLink "LinearTruthsModel" 107 yX7_turned) ∈ W0 := q_l 5 236 (by decide +kernel) (by decide +kernel)
theorem wm_1270 : (Cond.methodLink "LinearTruthsModel" 111 yX7_both) ∈ W0 := q_l 6 0 (by decide +kernel) (by decide +kernel)
theorem wm_1274 : (Cond.methodLink "LinearTruthsModel" 159 yX7_quantified) ∈ W0 := q_l 6 4 (by decide +kernel) (by decide +kernel)
theorem wm_1294 : (Cond.methodLink "LinearTruthsModel" 226 yX7_beginFreed) ∈ W0 := q_l 6 24 (by decide +kernel) (by decide +kernel)
theorem wm_1298 : (Cond.methodLink "LinearTruthsModel" 210 yX7_root) ∈ W0 := q_l 6 28 (by decide +kernel) (by decide +kernel)
theorem wm_1302 : (Cond.methodLink "LinearTruthsModel" 219 yX7_freed) ∈ W0 := q_l 6 32 (by decide +kernel) (by decide +kernel)
theorem wm_1306 : (Cond.methodLink "LinearTruthsModel" 216 yX7_sweepIfFull) ∈ W0 := q_l 6 36 (by decide +kernel) (by decide +kernel)
theorem wm_1310 : (Cond.methodLink "LinearTruthsModel" 223 yX7_takeOut) ∈ W0 := q_l 6 40 (by decide +kernel) (by decide +kernel)
theorem wm_1314 : (Cond.methodLink "LinearTruthsModel" 200 yX7_collect) ∈ W0 := q_l 6 44 (by decide +kernel) (by decide +kernel)
theorem wm_1318 : (Cond.methodLink "LinearTruthsModel" 197 yX7_putAll) ∈ W0 := q_l 6 48 (by decide +kernel) (by decide +kernel)
theorem wm_1322 : (Cond.methodLink "LinearTruthsModel" 194 yX7_put) ∈ W0 := q_l 6 52 (by decide +kernel) (by decide +kernel)
theorem wm_1334 : (Cond.methodLink "LinearTruthsModel" 234 yX7_count) ∈ W0 := q_l 6 64 (by decide +kernel) (by decide +kernel)
theorem wm_1338 : (Cond.methodLink "LinearTruthsModel" 231 yX7_isTrue) ∈ W0 := q_l 6 68 (by decide +kernel) (by decide +kernel)
theorem wm_1342 : (Cond.constantLong "LinearTruthsModel" 229 2520) ∈ W0 := q_l 6 72 (by decide +kernel) (by decide +kernel)
theorem wm_1347 : (Cond.methodLink "LinearTruthsModel" 238 yX7_valued) ∈ W0 := q_l 6 77 (by decide +kernel) (by decide +kernel)
theorem wm_1363 : (Cond.methodLink "LinearTruthsModel" 253 yX7_sayAll) ∈ W0 := q_l 6 93 (by decide +kernel) (by decide +kernel)
theorem wm_1367 : (Cond.methodLink "LinearTruthsModel" 244 yX7_say) ∈ W0 := q_l 6 97 (by decide +kernel) (by decide +kernel)
theorem wm_1371 : (Cond.methodLink "LinearTruthsModel" 250 yX7_sayAtom) ∈ W0 := q_l 6 101 (by decide +kernel) (by decide +kernel)
theorem wm_1375 : (Cond.methodLink "LinearTruthsModel" 247 yX7_sayNumber) ∈ W0 := q_l 6 105 (by decide +kernel) (by decide +kernel)
theorem wm_1383 : (Cond.constantLong "LinearTruthsModel" 256 12000) ∈ W0 := q_l 6 113 (by decide +kernel) (by decide +kernel)
theorem wm_1384 : (Cond.constantLong "LinearTruthsModel" 258 255) ∈ W0 := q_l 6 114 (by decide +kernel) (by decide +kernel)
theorem cv_X7_alternatives : Cv RX7 yX7_alternatives cX7_alternatives 3 (some .int) 0 := ⟨q_l 5 179 (by decide +kernel) (by decide +kernel), q_l 0 41 (by decide +kernel) (by decide +kernel), q_l 1 23 (by decide +kernel) (by decide +kernel), q_l 5 180 rfl (by decide +kernel), ⟨rfl, ncq_8.1, ncq_8.2, pdq_8⟩⟩
theorem cv_X7_atom : Cv RX7 yX7_atom cX7_atom 7 (some .int) 1 := ⟨q_l 5 229 (by decide +kernel) (by decide +kernel), q_l 0 51 (by decide +kernel) (by decide +kernel), q_l 1 23 (by decide +kernel) (by decide +kernel), q_l 5 230 rfl (by decide +kernel), ⟨rfl, ncq_8.1, ncq_8.2, pdq_10⟩⟩
theorem cv_X7_beginFreed : Cv RX7 yX7_beginFreed cX7_beginFreed 1 none 0 := ⟨q_l 6 26 (by decide +kernel) (by decide +kernel), q_l 0 55 (by decide +kernel) (by decide +kernel), q_l 1 23 (by decide +kernel) (by decide +kernel), q_l 6 27 rfl (by decide +kernel), ⟨rfl, ncq_8.1, ncq_8.2, pdq_5⟩⟩
theorem cv_X7_blanks : Cv RX7 yX7_blanks cX7_blanks 1 none 0 := ⟨q_l 5 191 (by decide +kernel) (by decide +kernel), q_l 0 44 (by decide +kernel) (by decide +kernel), q_l 1 23 (by decide +kernel) (by decide +kernel), q_l 5 192 rfl (by decide +kernel), ⟨rfl, ncq_8.1, ncq_8.2, pdq_5⟩⟩
theorem cv_X7_both : Cv RX7 yX7_both cX7_both 5 (some .int) 3 := ⟨q_l 6 2 (by decide +kernel) (by decide +kernel), q_l 0 53 (by decide +kernel) (by decide +kernel), q_l 1 23 (by decide +kernel) (by decide +kernel), q_l 6 3 rfl (by decide +kernel), ⟨rfl, ncq_8.1, ncq_8.2, pdq_28⟩⟩
theorem cv_X7_collect : Cv RX7 yX7_collect cX7_collect 10 none 2 := ⟨q_l 6 46 (by decide +kernel) (by decide +kernel), q_l 0 60 (by decide +kernel) (by decide +kernel), q_l 1 23 (by decide +kernel) (by decide +kernel), q_l 6 47 rfl (by decide +kernel), ⟨rfl, ncq_8.1, ncq_8.2, pdq_11⟩⟩
theorem cv_X7_conditions : Cv RX7 yX7_conditions cX7_conditions 3 (some .int) 0 := ⟨q_l 5 183 (by decide +kernel) (by decide +kernel), q_l 0 42 (by decide +kernel) (by decide +kernel), q_l 1 23 (by decide +kernel) (by decide +kernel), q_l 5 184 rfl (by decide +kernel), ⟨rfl, ncq_8.1, ncq_8.2, pdq_8⟩⟩
theorem cv_X7_count : Cv RX7 yX7_count cX7_count 5 (some .int) 2 := ⟨q_l 6 66 (by decide +kernel) (by decide +kernel), q_l 0 63 (by decide +kernel) (by decide +kernel), q_l 1 23 (by decide +kernel) (by decide +kernel), q_l 6 67 rfl (by decide +kernel), ⟨rfl, ncq_8.1, ncq_8.2, pdq_12⟩⟩
theorem cs_X7_divisor : Cs yX7_divisor cX7_divisor 10 (some .long) 2 := ⟨q_l 5 232 (by decide +kernel) (by decide +kernel), q_l 1 23 (by decide +kernel) (by decide +kernel), q_l 5 233 rfl (by decide +kernel), ⟨ncq_8.1, ncq_8.2, pdq_29⟩⟩
theorem cv_X7_fail : Cv RX7 yX7_fail cX7_fail 1 (some .int) 0 := ⟨q_l 5 222 (by decide +kernel) (by decide +kernel), q_l 0 50 (by decide +kernel) (by decide +kernel), q_l 1 23 (by decide +kernel) (by decide +kernel), q_l 5 223 rfl (by decide +kernel), ⟨rfl, ncq_8.1, ncq_8.2, pdq_8⟩⟩
theorem cv_X7_formula : Cv RX7 yX7_formula cX7_formula 3 (some .int) 0 := ⟨q_l 5 175 (by decide +kernel) (by decide +kernel), q_l 0 40 (by decide +kernel) (by decide +kernel), q_l 1 23 (by decide +kernel) (by decide +kernel), q_l 5 176 rfl (by decide +kernel), ⟨rfl, ncq_8.1, ncq_8.2, pdq_8⟩⟩
theorem cv_X7_freed : Cv RX7 yX7_freed cX7_freed 6 none 1 := ⟨q_l 6 34 (by decide +kernel) (by decide +kernel), q_l 0 57 (by decide +kernel) (by decide +kernel), q_l 1 23 (by decide +kernel) (by decide +kernel), q_l 6 35 rfl (by decide +kernel), ⟨rfl, ncq_8.1, ncq_8.2, pdq_9⟩⟩
theorem cv_X7_hashOf : Cv RX7 yX7_hashOf cX7_hashOf 8 (some .int) 5 := ⟨q_l 5 58 (by decide +kernel) (by decide +kernel), q_l 0 38 (by decide +kernel) (by decide +kernel), q_l 1 23 (by decide +kernel) (by decide +kernel), q_l 5 59 rfl (by decide +kernel), ⟨rfl, ncq_8.1, ncq_8.2, pdq_30⟩⟩
theorem cs_X7_isDigit : Cs yX7_isDigit cX7_isDigit 1 (some .boolean) 1 := ⟨q_l 5 218 (by decide +kernel) (by decide +kernel), q_l 1 23 (by decide +kernel) (by decide +kernel), q_l 5 219 rfl (by decide +kernel), ⟨ncq_8.1, ncq_8.2, pdq_18⟩⟩
theorem cv_X7_isTrue : Cv RX7 yX7_isTrue cX7_isTrue 5 (some .boolean) 1 := ⟨q_l 6 70 (by decide +kernel) (by decide +kernel), q_l 0 64 (by decide +kernel) (by decide +kernel), q_l 1 23 (by decide +kernel) (by decide +kernel), q_l 6 71 rfl (by decide +kernel), ⟨rfl, ncq_8.1, ncq_8.2, pdq_18⟩⟩
theorem cs_X7_isVariable : Cs yX7_isVariable cX7_isVariable 1 (some .boolean) 1 := ⟨q_l 5 214 (by decide +kernel) (by decide +kernel), q_l 1 23 (by decide +kernel) (by decide +kernel), q_l 5 215 rfl (by decide +kernel), ⟨ncq_8.1, ncq_8.2, pdq_18⟩⟩
theorem cv_X7_item : Cv RX7 yX7_item cX7_item 11 none 1 := ⟨q_l 5 211 (by decide +kernel) (by decide +kernel), q_l 0 49 (by decide +kernel) (by decide +kernel), q_l 1 23 (by decide +kernel) (by decide +kernel), q_l 5 212 rfl (by decide +kernel), ⟨rfl, ncq_8.1, ncq_8.2, pdq_31⟩⟩
theorem cv_X7_peek : Cv RX7 yX7_peek cX7_peek 1 (some .int) 0 := ⟨q_l 5 195 (by decide +kernel) (by decide +kernel), q_l 0 45 (by decide +kernel) (by decide +kernel), q_l 1 23 (by decide +kernel) (by decide +kernel), q_l 5 196 rfl (by decide +kernel), ⟨rfl, ncq_8.1, ncq_8.2, pdq_8⟩⟩
theorem cv_X7_place : Cv RX7 yX7_place cX7_place 9 (some .int) 3 := ⟨q_l 5 54 (by decide +kernel) (by decide +kernel), q_l 0 37 (by decide +kernel) (by decide +kernel), q_l 1 23 (by decide +kernel) (by decide +kernel), q_l 5 55 rfl (by decide +kernel), ⟨rfl, ncq_8.1, ncq_8.2, pdq_32⟩⟩
theorem cv_X7_put : Cv RX7 yX7_put cX7_put 5 (some .int) 1 := ⟨q_l 6 54 (by decide +kernel) (by decide +kernel), q_l 0 62 (by decide +kernel) (by decide +kernel), q_l 1 23 (by decide +kernel) (by decide +kernel), q_l 6 55 rfl (by decide +kernel), ⟨rfl, ncq_8.1, ncq_8.2, pdq_10⟩⟩
theorem cv_X7_putAll : Cv RX7 yX7_putAll cX7_putAll 4 (some .int) 1 := ⟨q_l 6 50 (by decide +kernel) (by decide +kernel), q_l 0 61 (by decide +kernel) (by decide +kernel), q_l 1 23 (by decide +kernel) (by decide +kernel), q_l 6 51 rfl (by decide +kernel), ⟨rfl, ncq_8.1, ncq_8.2, pdq_10⟩⟩
theorem cv_X7_quantified : Cv RX7 yX7_quantified cX7_quantified 4 (some .int) 3 := ⟨q_l 6 6 (by decide +kernel) (by decide +kernel), q_l 0 54 (by decide +kernel) (by decide +kernel), q_l 1 23 (by decide +kernel) (by decide +kernel), q_l 6 7 rfl (by decide +kernel), ⟨rfl, ncq_8.1, ncq_8.2, pdq_28⟩⟩
theorem cv_X7_relation : Cv RX7 yX7_relation cX7_relation 4 (some .int) 0 := ⟨q_l 5 203 (by decide +kernel) (by decide +kernel), q_l 0 47 (by decide +kernel) (by decide +kernel), q_l 1 23 (by decide +kernel) (by decide +kernel), q_l 5 204 rfl (by decide +kernel), ⟨rfl, ncq_8.1, ncq_8.2, pdq_8⟩⟩
theorem cv_X7_root : Cv RX7 yX7_root cX7_root 2 (some .int) 1 := ⟨q_l 6 30 (by decide +kernel) (by decide +kernel), q_l 0 56 (by decide +kernel) (by decide +kernel), q_l 1 23 (by decide +kernel) (by decide +kernel), q_l 6 31 rfl (by decide +kernel), ⟨rfl, ncq_8.1, ncq_8.2, pdq_10⟩⟩
theorem cv_X7_say : Cv RX7 yX7_say cX7_say 2 none 1 := ⟨q_l 6 99 (by decide +kernel) (by decide +kernel), q_l 0 67 (by decide +kernel) (by decide +kernel), q_l 1 23 (by decide +kernel) (by decide +kernel), q_l 6 100 rfl (by decide +kernel), ⟨rfl, ncq_8.1, ncq_8.2, pdq_9⟩⟩
theorem cv_X7_sayAll : Cv RX7 yX7_sayAll cX7_sayAll 2 none 1 := ⟨q_l 6 95 (by decide +kernel) (by decide +kernel), q_l 0 66 (by decide +kernel) (by decide +kernel), q_l 1 23 (by decide +kernel) (by decide +kernel), q_l 6 96 rfl (by decide +kernel), ⟨rfl, ncq_8.1, ncq_8.2, pdq_9⟩⟩
theorem cv_X7_sayAtom : Cv RX7 yX7_sayAtom cX7_sayAtom 6 none 1 := ⟨q_l 6 103 (by decide +kernel) (by decide +kernel), q_l 0 68 (by decide +kernel) (by decide +kernel), q_l 1 23 (by decide +kernel) (by decide +kernel), q_l 6 104 rfl (by decide +kernel), ⟨rfl, ncq_8.1, ncq_8.2, pdq_9⟩⟩
theorem cv_X7_sayNumber : Cv RX7 yX7_sayNumber cX7_sayNumber 3 none 1 := ⟨q_l 6 107 (by decide +kernel) (by decide +kernel), q_l 0 69 (by decide +kernel) (by decide +kernel), q_l 1 23 (by decide +kernel) (by decide +kernel), q_l 6 108 rfl (by decide +kernel), ⟨rfl, ncq_8.1, ncq_8.2, pdq_9⟩⟩
theorem cv_X7_side : Cv RX7 yX7_side cX7_side 5 none 2 := ⟨q_l 5 207 (by decide +kernel) (by decide +kernel), q_l 0 48 (by decide +kernel) (by decide +kernel), q_l 1 23 (by decide +kernel) (by decide +kernel), q_l 5 208 rfl (by decide +kernel), ⟨rfl, ncq_8.1, ncq_8.2, pdq_33⟩⟩
theorem cv_X7_sweep : Cv RX7 yX7_sweep cX7_sweep 4 none 0 := ⟨q_l 5 171 (by decide +kernel) (by decide +kernel), q_l 0 39 (by decide +kernel) (by decide +kernel), q_l 1 23 (by decide +kernel) (by decide +kernel), q_l 5 172 rfl (by decide +kernel), ⟨rfl, ncq_8.1, ncq_8.2, pdq_5⟩⟩
theorem cv_X7_sweepIfFull : Cv RX7 yX7_sweepIfFull cX7_sweepIfFull 1 none 0 := ⟨q_l 6 38 (by decide +kernel) (by decide +kernel), q_l 0 58 (by decide +kernel) (by decide +kernel), q_l 1 23 (by decide +kernel) (by decide +kernel), q_l 6 39 rfl (by decide +kernel), ⟨rfl, ncq_8.1, ncq_8.2, pdq_5⟩⟩
theorem cv_X7_takeOut : Cv RX7 yX7_takeOut cX7_takeOut 8 none 2 := ⟨q_l 6 42 (by decide +kernel) (by decide +kernel), q_l 0 59 (by decide +kernel) (by decide +kernel), q_l 1 23 (by decide +kernel) (by decide +kernel), q_l 6 43 rfl (by decide +kernel), ⟨rfl, ncq_8.1, ncq_8.2, pdq_11⟩⟩
theorem cv_X7_truth : Cv RX7 yX7_truth cX7_truth 2 (some .int) 1 := ⟨q_l 5 199 (by decide +kernel) (by decide +kernel), q_l 0 46 (by decide +kernel) (by decide +kernel), q_l 1 23 (by decide +kernel) (by decide +kernel), q_l 5 200 rfl (by decide +kernel), ⟨rfl, ncq_8.1, ncq_8.2, pdq_34⟩⟩
theorem cv_X7_turned : Cv RX7 yX7_turned cX7_turned 4 (some .int) 1 := ⟨q_l 5 238 (by decide +kernel) (by decide +kernel), q_l 0 52 (by decide +kernel) (by decide +kernel), q_l 1 23 (by decide +kernel) (by decide +kernel), q_l 5 239 rfl (by decide +kernel), ⟨rfl, ncq_8.1, ncq_8.2, pdq_10⟩⟩
theorem cv_X7_unit : Cv RX7 yX7_unit cX7_unit 4 (some .int) 0 := ⟨q_l 5 187 (by decide +kernel) (by decide +kernel), q_l 0 43 (by decide +kernel) (by decide +kernel), q_l 1 23 (by decide +kernel) (by decide +kernel), q_l 5 188 rfl (by decide +kernel), ⟨rfl, ncq_8.1, ncq_8.2, pdq_8⟩⟩
theorem cv_X7_valued : Cv RX7 yX7_valued cX7_valued 9 (some .int) 1 := ⟨q_l 6 79 (by decide +kernel) (by decide +kernel), q_l 0 65 (by decide +kernel) (by decide +kernel), q_l 1 23 (by decide +kernel) (by decide +kernel), q_l 6 80 rfl (by decide +kernel), ⟨rfl, ncq_8.1, ncq_8.2, pdq_10⟩⟩
abbrev rmg_collect (d : Nat) : Room := { frames := 0 + d, cells := 0, slots := 0, locals := 0 + 29 * d }
abbrev ws_X7_collect (cI cJ cB : ClassId) (a0 a_many a_table a_roots a_moved a_text a_out a_above a_below a_row a_sum a_point a_kind a_left a_right a_bits a_rows a_pointRows a_pointSorts : Nat) (thrown : Int32) (used : Int32) (rooted : Int32) (size : Int32) (outSize : Int32) (points : Int32) (takenOut : Int32) (great : Int32) (at_ : Int32) (fault : Int32) (open_ : Int32) (wrong : Int32) (by_ : Int64) (sort : Int32) (variable_ : Int32) (pointCount : Int32) (kind : Nat → Int32) (left_ : Nat → Int32) (right_ : Nat → Int32) (bits : Nat → Int32) (rows : Nat → Int32) (pointRows : Nat → Int32) (pointSorts : Nat → Int32) : va_W := [(a0, .inr (9, [.int thrown, .ref a_kind, .ref a_left, .ref a_right, .ref a_many, .ref a_bits, .ref a_rows, .ref a_table, .int used, .ref a_roots, .int rooted, .ref a_moved, .ref a_text, .int size, .ref a_out, .int outSize, .ref a_above, .ref a_below, .int points, .int takenOut, .int great, .ref a_row, .int at_, .int fault, .int open_, .int wrong, .ref a_sum, .ref a_point, .long by_, .int sort, .int variable_, .ref a_pointRows, .ref a_pointSorts, .int pointCount])), (a_kind, .inl (cI, 24000, .inl kind)), (a_left, .inl (cI, 24000, .inl left_)), (a_right, .inl (cI, 24000, .inl right_)), (a_bits, .inl (cI, 24000, .inl bits)), (a_rows, .inl (cI, 216000, .inl rows)), (a_pointRows, .inl (cI, 14000, .inl pointRows)), (a_pointSorts, .inl (cI, 1400, .inl pointSorts))]
def CP_X7_collect (l : Launch) (D : va_G) (cI cJ cB : ClassId) (rm : Room) (f : Int32 → Int32 → (Nat → Int32) → (Nat → Int32) → (Nat → Int32) → (Nat → Int32) → (Nat → Int32) → (Nat → Int32) → (Nat → Int32) → Int32 → Int32 → Option ((Int32) × (Nat → Int32) × (Nat → Int32))) : Prop := ∀ (a0 a_many a_table a_roots a_moved a_text a_out a_above a_below a_row a_sum a_point a_kind a_left a_right a_bits a_rows a_pointRows a_pointSorts : Nat) (sz : Nat) (thrown : Int32) (used : Int32) (rooted : Int32) (size : Int32) (outSize : Int32) (points : Int32) (takenOut : Int32) (great : Int32) (at_ : Int32) (fault : Int32) (open_ : Int32) (wrong : Int32) (by_ : Int64) (sort : Int32) (variable_ : Int32) (pointCount : Int32) (kind : Nat → Int32) (left_ : Nat → Int32) (right_ : Nat → Int32) (bits : Nat → Int32) (rows : Nat → Int32) (pointRows : Nat → Int32) (pointSorts : Nat → Int32) (x1 : Int32) (x2 : Int32) {z : (Int32) × (Nat → Int32) × (Nat → Int32)}, f variable_ pointCount kind left_ right_ bits rows pointRows pointSorts x1 x2 = some z → Mg l yX7_collect cX7_collect 10 none rm D (ty0 cI cJ cB) [.ref a0, .int x1, .int x2] sz (ws_X7_collect cI cJ cB a0 a_many a_table a_roots a_moved a_text a_out a_above a_below a_row a_sum a_point a_kind a_left a_right a_bits a_rows a_pointRows a_pointSorts thrown used rooted size outSize points takenOut great at_ fault open_ wrong by_ sort variable_ pointCount kind left_ right_ bits rows pointRows pointSorts) none (ws_X7_collect cI cJ cB a0 a_many a_table a_roots a_moved a_text a_out a_above a_below a_row a_sum a_point a_kind a_left a_right a_bits a_rows a_pointRows a_pointSorts thrown used rooted size outSize points takenOut great at_ fault open_ wrong by_ sort variable_ z.1 kind left_ right_ bits rows z.2.1 z.2.2)
section G_X7_collect
def f_X7_collect_169 (R_X7_collect : Int32 → Int32 → (Nat → Int32) → (Nat → Int32) → (Nat → Int32) → (Nat → Int32) → (Nat → Int32) → (Nat → Int32) → (Nat → Int32) → Int32 → Int32 → Option ((Int32) × (Nat → Int32) × (Nat → Int32))) (K114 : Int32 → Int32 → (Nat → Int32) → (Nat → Int32) → (Nat → Int32) → (Nat → Int32) → (Nat → Int32) → (Nat → Int32) → (Nat → Int32) → Int32 → Int32 → Int32 → Int32 → Int32 → Int32 → Option ((Int32) × (Nat → Int32) × (Nat → Int32))) (N : Nat) (variable_ : Int32) (pointCount : Int32) (kind : Nat → Int32) (left_ : Nat → Int32) (right_ : Nat → Int32) (bits : Nat → Int32) (rows : Nat → Int32) (pointRows : Nat → Int32) (pointSorts : Nat → Int32) (y1 : Int32) (y2 : Int32) (y3 : Int32) (y5 : Int32) (y6 : Int32) (y7 : Int32) (s1 : Int32) (s2 : Int32) : Option ((Int32) × (Nat → Int32) × (Nat → Int32)) := ix s1 14000 (K114 variable_ pointCount kind left_ right_ bits rows (upd pointRows s1.toNatClampNeg s2) pointSorts y1 y2 y3 y5 y6 (y7 + 1))
def f_X7_collect_146 (R_X7_collect : Int32 → Int32 → (Nat → Int32) → (Nat → Int32) → (Nat → Int32) → (Nat → Int32) → (Nat → Int32) → (Nat → Int32) → (Nat → Int32) → Int32 → Int32 → Option ((Int32) × (Nat → Int32) × (Nat → Int32))) (K114 : Int32 → Int32 → (Nat → Int32) → (Nat → Int32) → (Nat → Int32) → (Nat → Int32) → (Nat → Int32) → (Nat → Int32) → (Nat → Int32) → Int32 → Int32 → Int32 → Int32 → Int32 → Int32 → Option ((Int32) × (Nat → Int32) × (Nat → Int32))) (N : Nat) (variable_ : Int32) (pointCount : Int32) (kind : Nat → Int32) (left_ : Nat → Int32) (right_ : Nat → Int32) (bits : Nat → Int32) (rows : Nat → Int32) (pointRows : Nat → Int32) (pointSorts : Nat → Int32) (y1 : Int32) (y2 : Int32) (y3 : Int32) (y5 : Int32) (y6 : Int32) (y7 : Int32) (s0 : Int32) : Option ((Int32) × (Nat → Int32) × (Nat → Int32)) := ifb (0 ≤ y3) (f_X7_collect_169 R_X7_collect K114 N variable_ pointCount kind left_ right_ bits rows pointRows pointSorts y1 y2 y3 y5 y6 y7 (y6 + y7) s0) (f_X7_collect_169 R_X7_collect K114 N variable_ pointCount kind left_ right_ bits rows pointRows pointSorts y1 y2 y3 y5 y6 y7 (y6 + y7) (-s0))
def f_X7_collect_273 (R_X7_collect : Int32 → Int32 → (Nat → Int32) → (Nat → Int32) → (Nat → Int32) → (Nat → Int32) → (Nat → Int32) → (Nat → Int32) → (Nat → Int32) → Int32 → Int32 → Option ((Int32) × (Nat → Int32) × (Nat → Int32))) (K199 : Int32 → Int32 → (Nat → Int32) → (Nat → Int32) → (Nat → Int32) → (Nat → Int32) → (Nat → Int32) → (Nat → Int32) → (Nat → Int32) → Int32 → Int32 → Int32 → Option ((Int32) × (Nat → Int32) × (Nat → Int32))) (K230 : Int32 → Int32 → (Nat → Int32) → (Nat → Int32) → (Nat → Int32) → (Nat → Int32) → (Nat → Int32) → (Nat → Int32) → (Nat → Int32) → Int32 → Int32 → Int32 → Int32 → Int32 → Option ((Int32) × (Nat → Int32) × (Nat → Int32))) (N : Nat) (variable_ : Int32) (pointCount : Int32) (kind : Nat → Int32) (left_ : Nat → Int32) (right_ : Nat → Int32) (bits : Nat → Int32) (rows : Nat → Int32) (pointRows : Nat → Int32) (pointSorts : Nat → Int32) (y5 : Int32) (y6 : Int32) (y7 : Int32) (y9 : Int32) (s0 : Int32) : Option ((Int32) × (Nat → Int32) × (Nat → Int32)) := K230 variable_ pointCount kind left_ right_ bits rows pointRows pointSorts y5 y6 y7 s0 (y9 + 1)
def f_X7_collect_281 (R_X7_collect : Int32 → Int32 → (Nat → Int32) → (Nat → Int32) → (Nat → Int32) → (Nat → Int32) → (Nat → Int32) → (Nat → Int32) → (Nat → Int32) → Int32 → Int32 → Option ((Int32) × (Nat → Int32) × (Nat → Int32))) (K199 : Int32 → Int32 → (Nat → Int32) → (Nat → Int32) → (Nat → Int32) → (Nat → Int32) → (Nat → Int32) → (Nat → Int32) → (Nat → Int32) → Int32 → Int32 → Int32 → Option ((Int32) × (Nat → Int32) × (Nat → Int32))) (N : Nat) (variable_ : Int32) (pointCount : Int32) (kind : Nat → Int32) (left_ : Nat → Int32) (right_ : Nat → Int32) (bits : Nat → Int32) (rows : Nat → Int32) (pointRows : Nat → Int32) (pointSorts : Nat → Int32) (y5 : Int32) (y6 : Int32) (y7 : Int32) (y8 : Int32) : Option ((Int32) × (Nat → Int32) × (Nat → Int32)) := ifb (y8 = 0) (K199 variable_ pointCount kind left_ right_ bits rows pointRows pointSorts y5 y6 (y7 + 1)) (some (pointCount, pointRows, pointSorts))
def f_X7_collect_230 (R_X7_collect : Int32 → Int32 → (Nat → Int32) → (Nat → Int32) → (Nat → Int32) → (Nat → Int32) → (Nat → Int32) → (Nat → Int32) → (Nat → Int32) → Int32 → Int32 → Option ((Int32) × (Nat → Int32) × (Nat → Int32))) (K199 : Int32 → Int32 → (Nat → Int32) → (Nat → Int32) → (Nat → Int32) → (Nat → Int32) → (Nat → Int32) → (Nat → Int32) → (Nat → Int32) → Int32 → Int32 → Int32 → Option ((Int32) × (Nat → Int32) × (Nat → Int32))) (N : Nat) : Nat → Int32 → Int32 → (Nat → Int32) → (Nat → Int32) → (Nat → Int32) → (Nat → Int32) → (Nat → Int32) → (Nat → Int32) → (Nat → Int32) → Int32 → Int32 → Int32 → Int32 → Int32 → Option ((Int32) × (Nat → Int32) × (Nat → Int32))
  | 0 => fun _ _ _ _ _ _ _ _ _ _ _ _ _ _ => none
  | n + 1 => fun variable_ pointCount kind left_ right_ bits rows pointRows pointSorts y5 y6 y7 y8 y9 => ifb (10 ≤ y9) (f_X7_collect_281 R_X7_collect K199 N variable_ pointCount kind left_ right_ bits rows pointRows pointSorts y5 y6 y7 y8) (ifb (y8 = 0) (f_X7_collect_281 R_X7_collect K199 N variable_ pointCount kind left_ right_ bits rows pointRows pointSorts y5 y6 y7 y8) (ix ((10 * y7) + y9) 14000 (ix (y6 + y9) 14000 (ifb ((pointRows ((10 * y7) + y9).toNatClampNeg) = (pointRows (y6 + y9).toNatClampNeg)) (f_X7_collect_273 R_X7_collect K199 (f_X7_collect_230 R_X7_collect K199 N n) N variable_ pointCount kind left_ right_ bits rows pointRows pointSorts y5 y6 y7 y9 1) (f_X7_collect_273 R_X7_collect K199 (f_X7_collect_230 R_X7_collect K199 N n) N variable_ pointCount kind left_ right_ bits rows pointRows pointSorts y5 y6 y7 y9 0)))))
def f_X7_collect_225 (R_X7_collect : Int32 → Int32 → (Nat → Int32) → (Nat → Int32) → (Nat → Int32) → (Nat → Int32) → (Nat → Int32) → (Nat → Int32) → (Nat → Int32) → Int32 → Int32 → Option ((Int32) × (Nat → Int32) × (Nat → Int32))) (K199 : Int32 → Int32 → (Nat → Int32) → (Nat → Int32) → (Nat → Int32) → (Nat → Int32) → (Nat → Int32) → (Nat → Int32) → (Nat → Int32) → Int32 → Int32 → Int32 → Option ((Int32) × (Nat → Int32) × (Nat → Int32))) (N : Nat) (variable_ : Int32) (pointCount : Int32) (kind : Nat → Int32) (left_ : Nat → Int32) (right_ : Nat → Int32) (bits : Nat → Int32) (rows : Nat → Int32) (pointRows : Nat → Int32) (pointSorts : Nat → Int32) (y5 : Int32) (y6 : Int32) (y7 : Int32) (s0 : Int32) : Option ((Int32) × (Nat → Int32) × (Nat → Int32)) := f_X7_collect_230 R_X7_collect K199 N N variable_ pointCount kind left_ right_ bits rows pointRows pointSorts y5 y6 y7 s0 0
def f_X7_collect_199 (R_X7_collect : Int32 → Int32 → (Nat → Int32) → (Nat → Int32) → (Nat → Int32) → (Nat → Int32) → (Nat → Int32) → (Nat → Int32) → (Nat → Int32) → Int32 → Int32 → Option ((Int32) × (Nat → Int32) × (Nat → Int32))) (N : Nat) : Nat → Int32 → Int32 → (Nat → Int32) → (Nat → Int32) → (Nat → Int32) → (Nat → Int32) → (Nat → Int32) → (Nat → Int32) → (Nat → Int32) → Int32 → Int32 → Int32 → Option ((Int32) × (Nat → Int32) × (Nat → Int32))
  | 0 => fun _ _ _ _ _ _ _ _ _ _ _ _ => none
  | n + 1 => fun variable_ pointCount kind left_ right_ bits rows pointRows pointSorts y5 y6 y7 => ifb (pointCount ≤ y7) (ix pointCount 1400 (some (pointCount + 1, pointRows, upd pointSorts pointCount.toNatClampNeg y5))) (ix y7 1400 (ifb ((pointSorts y7.toNatClampNeg) = y5) (f_X7_collect_225 R_X7_collect (f_X7_collect_199 R_X7_collect N n) N variable_ pointCount kind left_ right_ bits rows pointRows pointSorts y5 y6 y7 1) (f_X7_collect_225 R_X7_collect (f_X7_collect_199 R_X7_collect N n) N variable_ pointCount kind left_ right_ bits rows pointRows pointSorts y5 y6 y7 0)))
def f_X7_collect_195 (R_X7_collect : Int32 → Int32 → (Nat → Int32) → (Nat → Int32) → (Nat → Int32) → (Nat → Int32) → (Nat → Int32) → (Nat → Int32) → (Nat → Int32) → Int32 → Int32 → Option ((Int32) × (Nat → Int32) × (Nat → Int32))) (N : Nat) (variable_ : Int32) (pointCount : Int32) (kind : Nat → Int32) (left_ : Nat → Int32) (right_ : Nat → Int32) (bits : Nat → Int32) (rows : Nat → Int32) (pointRows : Nat → Int32) (pointSorts : Nat → Int32) (y2 : Int32) (y5 : Int32) (y6 : Int32) (s1 : Int32) (s2 : Int32) : Option ((Int32) × (Nat → Int32) × (Nat → Int32)) := ix s1 14000 (f_X7_collect_199 R_X7_collect N N variable_ pointCount kind left_ right_ bits rows (upd pointRows s1.toNatClampNeg s2) pointSorts y5 y6 y2)
def f_X7_collect_114 (R_X7_collect : Int32 → Int32 → (Nat → Int32) → (Nat → Int32) → (Nat → Int32) → (Nat → Int32) → (Nat → Int32) → (Nat → Int32) → (Nat → Int32) → Int32 → Int32 → Option ((Int32) × (Nat → Int32) × (Nat → Int32))) (N : Nat) : Nat → Int32 → Int32 → (Nat → Int32) → (Nat → Int32) → (Nat → Int32) → (Nat → Int32) → (Nat → Int32) → (Nat → Int32) → (Nat → Int32) → Int32 → Int32 → Int32 → Int32 → Int32 → Int32 → Option ((Int32) × (Nat → Int32) × (Nat → Int32))
  | 0 => fun _ _ _ _ _ _ _ _ _ _ _ _ _ _ _ => none
  | n + 1 => fun variable_ pointCount kind left_ right_ bits rows pointRows pointSorts y1 y2 y3 y5 y6 y7 => ifb (9 ≤ y7) (ifb (0 ≤ y3) (f_X7_collect_195 R_X7_collect N variable_ pointCount kind left_ right_ bits rows pointRows pointSorts y2 y5 y6 (y6 + 9) y3) (f_X7_collect_195 R_X7_collect N variable_ pointCount kind left_ right_ bits rows pointRows pointSorts y2 y5 y6 (y6 + 9) (-y3))) (ifb (y7 = variable_) (f_X7_collect_146 R_X7_collect (f_X7_collect_114 R_X7_collect N n) N variable_ pointCount kind left_ right_ bits rows pointRows pointSorts y1 y2 y3 y5 y6 y7 0) (ix ((9 * y1) + y7) 216000 (f_X7_collect_146 R_X7_collect (f_X7_collect_114 R_X7_collect N n) N variable_ pointCount kind left_ right_ bits rows pointRows pointSorts y1 y2 y3 y5 y6 y7 (rows ((9 * y1) + y7).toNatClampNeg))))
def f_X7_collect_100 (R_X7_collect : Int32 → Int32 → (Nat → Int32) → (Nat → Int32) → (Nat → Int32) → (Nat → Int32) → (Nat → Int32) → (Nat → Int32) → (Nat → Int32) → Int32 → Int32 → Option ((Int32) × (Nat → Int32) × (Nat → Int32))) (N : Nat) (variable_ : Int32) (pointCount : Int32) (kind : Nat → Int32) (left_ : Nat → Int32) (right_ : Nat → Int32) (bits : Nat → Int32) (rows : Nat → Int32) (pointRows : Nat → Int32) (pointSorts : Nat → Int32) (y1 : Int32) (y2 : Int32) (y3 : Int32) (s0 : Int32) : Option ((Int32) × (Nat → Int32) × (Nat → Int32)) := f_X7_collect_114 R_X7_collect N N variable_ pointCount kind left_ right_ bits rows pointRows pointSorts y1 y2 y3 s0 (10 * pointCount) 0
def f_X7_collect_95 (R_X7_collect : Int32 → Int32 → (Nat → Int32) → (Nat → Int32) → (Nat → Int32) → (Nat → Int32) → (Nat → Int32) → (Nat → Int32) → (Nat → Int32) → Int32 → Int32 → Option ((Int32) × (Nat → Int32) × (Nat → Int32))) (N : Nat) (variable_ : Int32) (pointCount : Int32) (kind : Nat → Int32) (left_ : Nat → Int32) (right_ : Nat → Int32) (bits : Nat → Int32) (rows : Nat → Int32) (pointRows : Nat → Int32) (pointSorts : Nat → Int32) (y1 : Int32) (y2 : Int32) (y3 : Int32) : Option ((Int32) × (Nat → Int32) × (Nat → Int32)) := f_X7_collect_100 R_X7_collect N variable_ pointCount kind left_ right_ bits rows pointRows pointSorts y1 y2 y3 1
def f_X7_collect_84 (R_X7_collect : Int32 → Int32 → (Nat → Int32) → (Nat → Int32) → (Nat → Int32) → (Nat → Int32) → (Nat → Int32) → (Nat → Int32) → (Nat → Int32) → Int32 → Int32 → Option ((Int32) × (Nat → Int32) × (Nat → Int32))) (N : Nat) (variable_ : Int32) (pointCount : Int32) (kind : Nat → Int32) (left_ : Nat → Int32) (right_ : Nat → Int32) (bits : Nat → Int32) (rows : Nat → Int32) (pointRows : Nat → Int32) (pointSorts : Nat → Int32) (y1 : Int32) (y2 : Int32) (y3 : Int32) (y4 : Int32) : Option ((Int32) × (Nat → Int32) × (Nat → Int32)) := ifb (y4 = 0) (f_X7_collect_95 R_X7_collect N variable_ pointCount kind left_ right_ bits rows pointRows pointSorts y1 y2 y3) (ifb (y4 = 3) (f_X7_collect_95 R_X7_collect N variable_ pointCount kind left_ right_ bits rows pointRows pointSorts y1 y2 y3) (f_X7_collect_100 R_X7_collect N variable_ pointCount kind left_ right_ bits rows pointRows pointSorts y1 y2 y3 2))
def F_X7_collect (R_X7_collect : Int32 → Int32 → (Nat → Int32) → (Nat → Int32) → (Nat → Int32) → (Nat → Int32) → (Nat → Int32) → (Nat → Int32) → (Nat → Int32) → Int32 → Int32 → Option ((Int32) × (Nat → Int32) × (Nat → Int32))) (N : Nat) (variable_ : Int32) (pointCount : Int32) (kind : Nat → Int32) (left_ : Nat → Int32) (right_ : Nat → Int32) (bits : Nat → Int32) (rows : Nat → Int32) (pointRows : Nat → Int32) (pointSorts : Nat → Int32) (x1 : Int32) (x2 : Int32) : Option ((Int32) × (Nat → Int32) × (Nat → Int32)) := ix x1 24000 (ifb ((((bits x1.toNatClampNeg) >>> (variable_ &&& 31)) &&& 1) = 0) (some (pointCount, pointRows, pointSorts)) (ix x1 24000 (ifb ((kind x1.toNatClampNeg) = 2) (ix ((9 * x1) + variable_) 216000 (ix x1 24000 (ifb ((left_ x1.toNatClampNeg) < 2) (f_X7_collect_84 R_X7_collect N variable_ pointCount kind left_ right_ bits rows pointRows pointSorts x1 x2 (rows ((9 * x1) + variable_).toNatClampNeg) (left_ x1.toNatClampNeg)) (ifb ((rows ((9 * x1) + variable_).toNatClampNeg) ≤ 0) (f_X7_collect_84 R_X7_collect N variable_ pointCount kind left_ right_ bits rows pointRows pointSorts x1 x2 (rows ((9 * x1) + variable_).toNatClampNeg) (left_ x1.toNatClampNeg)) (some (pointCount, pointRows, pointSorts)))))) (ix x1 24000 ((R_X7_collect variable_ pointCount kind left_ right_ bits rows pointRows pointSorts (left_ x1.toNatClampNeg) x2).bind (fun z35 => ix x1 24000 ((R_X7_collect variable_ z35.1 kind left_ right_ bits rows z35.2.1 z35.2.2 (right_ x1.toNatClampNeg) x2).bind (fun z46 => some (z46.1, z46.2.1, z46.2.2)))))))))
variable {p : Program} {l : Launch} {e : Env} {s : State} {m : MethodId} {below : List Frame} {meth : Method} {c : Code} {args : Array Value} {x0 : Cond} {D : va_G} {cI cJ cB : ClassId} {sz N : Nat} {ws0 : va_W} {a0 a_many a_table a_roots a_moved a_text a_out a_above a_below a_row a_sum a_point a_kind a_left a_right a_bits a_rows a_pointRows a_pointSorts : Nat} {thrown : Int32} {used : Int32} {rooted : Int32} {size : Int32} {outSize : Int32} {points : Int32} {takenOut : Int32} {great : Int32} {at_ : Int32} {fault : Int32} {open_ : Int32} {wrong : Int32} {by_ : Int64} {sort : Int32} {variable_ : Int32} {kind : Nat → Int32} {left_ : Nat → Int32} {right_ : Nat → Int32} {bits : Nat → Int32} {rows : Nat → Int32} {z : (Int32) × (Nat → Int32) × (Nat → Int32)} {d : Nat} {R_X7_collect : Int32 → Int32 → (Nat → Int32) → (Nat → Int32) → (Nat → Int32) → (Nat → Int32) → (Nat → Int32) → (Nat → Int32) → (Nat → Int32) → Int32 → Int32 → Option ((Int32) × (Nat → Int32) × (Nat → Int32))}
set_option maxHeartbeats 4000000 in
set_option maxRecDepth 100000 in
theorem w_X7_collect_169 (CX : Cx p m c cX7_collect 10 s args x0 RX7 meth none) (hK : va_K D vwCl (ty0 cI cJ cB) s) (hsz : s.heap.size = sz) (ih_X7_collect : CP_X7_collect l D cI cJ cB (rmg_collect d) R_X7_collect) {K114 : Int32 → Int32 → (Nat → Int32) → (Nat → Int32) → (Nat → Int32) → (Nat → Int32) → (Nat → Int32) → (Nat → Int32) → (Nat → Int32) → Int32 → Int32 → Int32 → Int32 → Int32 → Int32 → Option ((Int32) × (Nat → Int32) × (Nat → Int32))} (hK114 : ∀ (pointCount : Int32) (pointRows : Nat → Int32) (pointSorts : Nat → Int32) (y1 : Int32) (y2 : Int32) (y3 : Int32) (y5 : Int32) (y6 : Int32) (y7 : Int32) (H : Heap) (locs : List Loc) (ls : Array Slot), K114 variable_ pointCount kind left_ right_ bits rows pointRows pointSorts y1 y2 y3 y5 y6 y7 = some z → va_P D vwCl (ws_X7_collect cI cJ cB a0 a_many a_table a_roots a_moved a_text a_out a_above a_below a_row a_sum a_point a_kind a_left a_right a_bits a_rows a_pointRows a_pointSorts thrown used rooted size outSize points takenOut great at_ fault open_ wrong by_ sort variable_ pointCount kind left_ right_ bits rows pointRows pointSorts) H → va_D (va_A ws0 sz) (ws_X7_collect cI cJ cB a0 a_many a_table a_roots a_moved a_text a_out a_above a_below a_row a_sum a_point a_kind a_left a_right a_bits a_rows a_pointRows a_pointSorts thrown used rooted size outSize points takenOut great at_ fault open_ wrong by_ sort variable_ pointCount kind left_ right_ bits rows pointRows pointSorts) → va_S (va_A ws0 sz) s.heap H locs → lv_has ls 10 [(0, .ref a0), (1, .int y1), (2, .int y2), (3, .int y3), (5, .int y5), (6, .int y6), (7, .int y7)] → W p l e (rmg_collect (d + 1)) s m args below meth c H locs 0 0 (MQ below (gQ D sz ws0 (ws_X7_collect cI cJ cB a0 a_many a_table a_roots a_moved a_text a_out a_above a_below a_row a_sum a_point a_kind a_left a_right a_bits a_rows a_pointRows a_pointSorts thrown used rooted size outSize points takenOut great at_ fault open_ wrong by_ sort variable_ z.1 kind left_ right_ bits rows z.2.1 z.2.2) none) args s 0 0 (va_A ws0 sz)) (F0 m 114 ls [])) : ∀ (pointCount : Int32) (pointRows : Nat → Int32) (pointSorts : Nat → Int32) (y1 : Int32) (y2 : Int32) (y3 : Int32) (y5 : Int32) (y6 : Int32) (y7 : Int32) (s1 : Int32) (s2 : Int32) (H : Heap) (locs : List Loc) (ls : Array Slot), f_X7_collect_169 R_X7_collect K114 N variable_ pointCount kind left_ right_ bits rows pointRows pointSorts y1 y2 y3 y5 y6 y7 s1 s2 = some z → va_P D vwCl (ws_X7_collect cI cJ cB a0 a_many a_table a_roots a_moved a_text a_out a_above a_below a_row a_sum a_point a_kind a_left a_right a_bits a_rows a_pointRows a_pointSorts thrown used rooted size outSize points takenOut great at_ fault open_ wrong by_ sort variable_ pointCount kind left_ right_ bits rows pointRows pointSorts) H → va_D (va_A ws0 sz) (ws_X7_collect cI cJ cB a0 a_many a_table a_roots a_moved a_text a_out a_above a_below a_row a_sum a_point a_kind a_left a_right a_bits a_rows a_pointRows a_pointSorts thrown used rooted size outSize points takenOut great at_ fault open_ wrong by_ sort variable_ pointCount kind left_ right_ bits rows pointRows pointSorts) → va_S (va_A ws0 sz) s.heap H locs → lv_has ls 10 [(0, .ref a0), (1, .int y1), (2, .int y2), (3, .int y3), (5, .int y5), (6, .int y6), (7, .int y7)] → W p l e (rmg_collect (d + 1)) s m args below meth c H locs 0 0 (MQ below (gQ D sz ws0 (ws_X7_collect cI cJ cB a0 a_many a_table a_roots a_moved a_text a_out a_above a_below a_row a_sum a_point a_kind a_left a_right a_bits a_rows a_pointRows a_pointSorts thrown used rooted size outSize points takenOut great at_ fault open_ wrong by_ sort variable_ z.1 kind left_ right_ bits rows z.2.1 z.2.2) none) args s 0 0 (va_A ws0 sz)) (F0 m 169 ls [.int s2, .int s1, .ref a_pointRows]) := by
  obtain ⟨F, hr, hlk, hNw⟩ := id CX
  have hx := F.1
  have hb := F.2.1
  have hown := F.2.2.2.1
  have hA : ∀ q, s.heap.size ≤ q → va_A ws0 sz q := fun q hq => Or.inr (hsz ▸ hq)
  intro pointCount pointRows pointSorts y1 y2 y3 y5 y6 y7 s1 s2 H locs ls h hP hD hS hl
  unfold f_X7_collect_169 at h
  obtain ⟨hi169, h⟩ := o_ix h
  refine r_iast (wn := (ws_X7_collect cI cJ cB a0 a_many a_table a_roots a_moved a_text a_out a_above a_below a_row a_sum a_point a_kind a_left a_right a_bits a_rows a_pointRows a_pointSorts thrown used rooted size outSize points takenOut great at_ fault open_ wrong by_ sort variable_ pointCount kind left_ right_ bits rows (upd pointRows s1.toNatClampNeg s2) pointSorts)) F hK hP hD hS 6 0 hi169 rfl rfl rfl dX7_collect_169 (fun H locs hP hD hS => ?_)
  refine lv_iinc (v := y7 + 1) (lv' := [(7, .int (y7 + 1)), (0, .ref a0), (1, .int y1), (2, .int y2), (3, .int y3), (5, .int y5), (6, .int y6)]) hx hb dX7_collect_170 hl (k := 6) rfl rfl (by decide) rfl (fun ls hl => ?_)
  refine lv_goto (tgt := 114) hx hb dX7_collect_173 (by decide) ?_
  exact hK114 pointCount (upd pointRows s1.toNatClampNeg s2) pointSorts y1 y2 y3 y5 y6 (y7 + 1) _ _ _ h hP hD hS (lv_sub hl [1, 2, 3, 4, 5, 6, 0] rfl)
set_option maxHeartbeats 4000000 in
set_option maxRecDepth 100000 in
theorem w_X7_collect_146 (CX : Cx p m c cX7_collect 10 s args x0 RX7 meth none) (hK : va_K D vwCl (ty0 cI cJ cB) s) (hsz : s.heap.size = sz) (ih_X7_collect : CP_X7_collect l D cI cJ cB (rmg_collect d) R_X7_collect) {K114 : Int32 → Int32 → (Nat → Int32) → (Nat → Int32) → (Nat → Int32) → (Nat → Int32) → (Nat → Int32) → (Nat → Int32) → (Nat → Int32) → Int32 → Int32 → Int32 → Int32 → Int32 → Int32 → Option ((Int32) × (Nat → Int32) × (Nat → Int32))} (hK114 : ∀ (pointCount : Int32) (pointRows : Nat → Int32) (pointSorts : Nat → Int32) (y1 : Int32) (y2 : Int32) (y3 : Int32) (y5 : Int32) (y6 : Int32) (y7 : Int32) (H : Heap) (locs : List Loc) (ls : Array Slot), K114 variable_ pointCount kind left_ right_ bits rows pointRows pointSorts y1 y2 y3 y5 y6 y7 = some z → va_P D vwCl (ws_X7_collect cI cJ cB a0 a_many a_table a_roots a_moved a_text a_out a_above a_below a_row a_sum a_point a_kind a_left a_right a_bits a_rows a_pointRows a_pointSorts thrown used rooted size outSize points takenOut great at_ fault open_ wrong by_ sort variable_ pointCount kind left_ right_ bits rows pointRows pointSorts) H → va_D (va_A ws0 sz) (ws_X7_collect cI cJ cB a0 a_many a_table a_roots a_moved a_text a_out a_above a_below a_row a_sum a_point a_kind a_left a_right a_bits a_rows a_pointRows a_pointSorts thrown used rooted size outSize points takenOut great at_ fault open_ wrong by_ sort variable_ pointCount kind left_ right_ bits rows pointRows pointSorts) → va_S (va_A ws0 sz) s.heap H locs → lv_has ls 10 [(0, .ref a0), (1, .int y1), (2, .int y2), (3, .int y3), (5, .int y5), (6, .int y6), (7, .int y7)] → W p l e (rmg_collect (d + 1)) s m args below meth c H locs 0 0 (MQ below (gQ D sz ws0 (ws_X7_collect cI cJ cB a0 a_many a_table a_roots a_moved a_text a_out a_above a_below a_row a_sum a_point a_kind a_left a_right a_bits a_rows a_pointRows a_pointSorts thrown used rooted size outSize points takenOut great at_ fault open_ wrong by_ sort variable_ z.1 kind left_ right_ bits rows z.2.1 z.2.2) none) args s 0 0 (va_A ws0 sz)) (F0 m 114 ls [])) : ∀ (pointCount : Int32) (pointRows : Nat → Int32) (pointSorts : Nat → Int32) (y1 : Int32) (y2 : Int32) (y3 : Int32) (y5 : Int32) (y6 : Int32) (y7 : Int32) (s0 : Int32) (H : Heap) (locs : List Loc) (ls : Array Slot), f_X7_collect_146 R_X7_collect K114 N variable_ pointCount kind left_ right_ bits rows pointRows pointSorts y1 y2 y3 y5 y6 y7 s0 = some z → va_P D vwCl (ws_X7_collect cI cJ cB a0 a_many a_table a_roots a_moved a_text a_out a_above a_below a_row a_sum a_point a_kind a_left a_right a_bits a_rows a_pointRows a_pointSorts thrown used rooted size outSize points takenOut great at_ fault open_ wrong by_ sort variable_ pointCount kind left_ right_ bits rows pointRows pointSorts) H → va_D (va_A ws0 sz) (ws_X7_collect cI cJ cB a0 a_many a_table a_roots a_moved a_text a_out a_above a_below a_row a_sum a_point a_kind a_left a_right a_bits a_rows a_pointRows a_pointSorts thrown used rooted size outSize points takenOut great at_ fault open_ wrong by_ sort variable_ pointCount kind left_ right_ bits rows pointRows pointSorts) → va_S (va_A ws0 sz) s.heap H locs → lv_has ls 10 [(0, .ref a0), (1, .int y1), (2, .int y2), (3, .int y3), (5, .int y5), (6, .int y6), (7, .int y7)] → W p l e (rmg_collect (d + 1)) s m args below meth c H locs 0 0 (MQ below (gQ D sz ws0 (ws_X7_collect cI cJ cB a0 a_many a_table a_roots a_moved a_text a_out a_above a_below a_row a_sum a_point a_kind a_left a_right a_bits a_rows a_pointRows a_pointSorts thrown used rooted size outSize points takenOut great at_ fault open_ wrong by_ sort variable_ z.1 kind left_ right_ bits rows z.2.1 z.2.2) none) args s 0 0 (va_A ws0 sz)) (F0 m 146 ls [.int s0]) := by
  obtain ⟨F, hr, hlk, hNw⟩ := id CX
  have hx := F.1
  have hb := F.2.1
  have hown := F.2.2.2.1
  have hA : ∀ q, s.heap.size ≤ q → va_A ws0 sz q := fun q hq => Or.inr (hsz ▸ hq)
  intro pointCount pointRows pointSorts y1 y2 y3 y5 y6 y7 s0 H locs ls h hP hD hS hl
  unfold f_X7_collect_146 at h
  refine lv_istore (lv' := [(8, .int s0), (0, .ref a0), (1, .int y1), (2, .int y2), (3, .int y3), (5, .int y5), (6, .int y6), (7, .int y7)]) hx hb dX7_collect_146 hl (by decide) rfl (fun ls hl => ?_)
  refine lv_aload_n hx hb dX7_collect_148 rfl (lv_at hl 1 rfl) ?_
  refine r_get F hK hP 0 31 rfl inW_X7 wm_1123 rfl (by decide) rfl dX7_collect_149 ?_
  refine lv_iload hx hb dX7_collect_152 (lv_at hl 6 rfl) ?_
  refine lv_iload hx hb dX7_collect_154 (lv_at hl 7 rfl) ?_
  refine lv_iadd hx hb dX7_collect_156 ?_
  refine lv_iload_n hx hb dX7_collect_157 rfl (lv_at hl 4 rfl) ?_
  refine lv_if_ge (tgt := 167) hx hb dX7_collect_158 (by decide) (fun c158 => ?_) (fun c158 => ?_)
  · have h := o_t c158 h
    refine lv_iload hx hb dX7_collect_167 (lv_at hl 0 rfl) ?_
    exact w_X7_collect_169 CX hK hsz (ih_X7_collect := ih_X7_collect) (hK114 := hK114) pointCount pointRows pointSorts y1 y2 y3 y5 y6 y7 (y6 + y7) s0 _ _ _ h hP hD hS (lv_sub hl [1, 2, 3, 4, 5, 6, 7] rfl)
  · have h := o_f c158 h
    refine lv_iload hx hb dX7_collect_161 (lv_at hl 0 rfl) ?_
    refine lv_ineg hx hb dX7_collect_163 ?_
    refine lv_goto (tgt := 169) hx hb dX7_collect_164 (by decide) ?_
    exact w_X7_collect_169 CX hK hsz (ih_X7_collect := ih_X7_collect) (hK114 := hK114) pointCount pointRows pointSorts y1 y2 y3 y5 y6 y7 (y6 + y7) (-s0) _ _ _ h hP hD hS (lv_sub hl [1, 2, 3, 4, 5, 6, 7] rfl)
set_option maxHeartbeats 4000000 in
set_option maxRecDepth 100000 in
theorem w_X7_collect_273 (CX : Cx p m c cX7_collect 10 s args x0 RX7 meth none) (hK : va_K D vwCl (ty0 cI cJ cB) s) (hsz : s.heap.size = sz) (ih_X7_collect : CP_X7_collect l D cI cJ cB (rmg_collect d) R_X7_collect) {K199 : Int32 → Int32 → (Nat → Int32) → (Nat → Int32) → (Nat → Int32) → (Nat → Int32) → (Nat → Int32) → (Nat → Int32) → (Nat → Int32) → Int32 → Int32 → Int32 → Option ((Int32) × (Nat → Int32) × (Nat → Int32))} (hK199 : ∀ (pointCount : Int32) (pointRows : Nat → Int32) (pointSorts : Nat → Int32) (y5 : Int32) (y6 : Int32) (y7 : Int32) (H : Heap) (locs : List Loc) (ls : Array Slot), K199 variable_ pointCount kind left_ right_ bits rows pointRows pointSorts y5 y6 y7 = some z → va_P D vwCl (ws_X7_collect cI cJ cB a0 a_many a_table a_roots a_moved a_text a_out a_above a_below a_row a_sum a_point a_kind a_left a_right a_bits a_rows a_pointRows a_pointSorts thrown used rooted size outSize points takenOut great at_ fault open_ wrong by_ sort variable_ pointCount kind left_ right_ bits rows pointRows pointSorts) H → va_D (va_A ws0 sz) (ws_X7_collect cI cJ cB a0 a_many a_table a_roots a_moved a_text a_out a_above a_below a_row a_sum a_point a_kind a_left a_right a_bits a_rows a_pointRows a_pointSorts thrown used rooted size outSize points takenOut great at_ fault open_ wrong by_ sort variable_ pointCount kind left_ right_ bits rows pointRows pointSorts) → va_S (va_A ws0 sz) s.heap H locs → lv_has ls 10 [(0, .ref a0), (5, .int y5), (6, .int y6), (7, .int y7)] → W p l e (rmg_collect (d + 1)) s m args below meth c H locs 0 0 (MQ below (gQ D sz ws0 (ws_X7_collect cI cJ cB a0 a_many a_table a_roots a_moved a_text a_out a_above a_below a_row a_sum a_point a_kind a_left a_right a_bits a_rows a_pointRows a_pointSorts thrown used rooted size outSize points takenOut great at_ fault open_ wrong by_ sort variable_ z.1 kind left_ right_ bits rows z.2.1 z.2.2) none) args s 0 0 (va_A ws0 sz)) (F0 m 199 ls [])) {K230 : Int32 → Int32 → (Nat → Int32) → (Nat → Int32) → (Nat → Int32) → (Nat → Int32) → (Nat → Int32) → (Nat → Int32) → (Nat → Int32) → Int32 → Int32 → Int32 → Int32 → Int32 → Option ((Int32) × (Nat → Int32) × (Nat → Int32))} (hK230 : ∀ (pointCount : Int32) (pointRows : Nat → Int32) (pointSorts : Nat → Int32) (y5 : Int32) (y6 : Int32) (y7 : Int32) (y8 : Int32) (y9 : Int32) (H : Heap) (locs : List Loc) (ls : Array Slot), K230 variable_ pointCount kind left_ right_ bits rows pointRows pointSorts y5 y6 y7 y8 y9 = some z → va_P D vwCl (ws_X7_collect cI cJ cB a0 a_many a_table a_roots a_moved a_text a_out a_above a_below a_row a_sum a_point a_kind a_left a_right a_bits a_rows a_pointRows a_pointSorts thrown used rooted size outSize points takenOut great at_ fault open_ wrong by_ sort variable_ pointCount kind left_ right_ bits rows pointRows pointSorts) H → va_D (va_A ws0 sz) (ws_X7_collect cI cJ cB a0 a_many a_table a_roots a_moved a_text a_out a_above a_below a_row a_sum a_point a_kind a_left a_right a_bits a_rows a_pointRows a_pointSorts thrown used rooted size outSize points takenOut great at_ fault open_ wrong by_ sort variable_ pointCount kind left_ right_ bits rows pointRows pointSorts) → va_S (va_A ws0 sz) s.heap H locs → lv_has ls 10 [(0, .ref a0), (5, .int y5), (6, .int y6), (7, .int y7), (8, .int y8), (9, .int y9)] → W p l e (rmg_collect (d + 1)) s m args below meth c H locs 0 0 (MQ below (gQ D sz ws0 (ws_X7_collect cI cJ cB a0 a_many a_table a_roots a_moved a_text a_out a_above a_below a_row a_sum a_point a_kind a_left a_right a_bits a_rows a_pointRows a_pointSorts thrown used rooted size outSize points takenOut great at_ fault open_ wrong by_ sort variable_ z.1 kind left_ right_ bits rows z.2.1 z.2.2) none) args s 0 0 (va_A ws0 sz)) (F0 m 230 ls [])) : ∀ (pointCount : Int32) (pointRows : Nat → Int32) (pointSorts : Nat → Int32) (y5 : Int32) (y6 : Int32) (y7 : Int32) (y9 : Int32) (s0 : Int32) (H : Heap) (locs : List Loc) (ls : Array Slot), f_X7_collect_273 R_X7_collect K199 K230 N variable_ pointCount kind left_ right_ bits rows pointRows pointSorts y5 y6 y7 y9 s0 = some z → va_P D vwCl (ws_X7_collect cI cJ cB a0 a_many a_table a_roots a_moved a_text a_out a_above a_below a_row a_sum a_point a_kind a_left a_right a_bits a_rows a_pointRows a_pointSorts thrown used rooted size outSize points takenOut great at_ fault open_ wrong by_ sort variable_ pointCount kind left_ right_ bits rows pointRows pointSorts) H → va_D (va_A ws0 sz) (ws_X7_collect cI cJ cB a0 a_many a_table a_roots a_moved a_text a_out a_above a_below a_row a_sum a_point a_kind a_left a_right a_bits a_rows a_pointRows a_pointSorts thrown used rooted size outSize points takenOut great at_ fault open_ wrong by_ sort variable_ pointCount kind left_ right_ bits rows pointRows pointSorts) → va_S (va_A ws0 sz) s.heap H locs → lv_has ls 10 [(0, .ref a0), (5, .int y5), (6, .int y6), (7, .int y7), (9, .int y9)] → W p l e (rmg_collect (d + 1)) s m args below meth c H locs 0 0 (MQ below (gQ D sz ws0 (ws_X7_collect cI cJ cB a0 a_many a_table a_roots a_moved a_text a_out a_above a_below a_row a_sum a_point a_kind a_left a_right a_bits a_rows a_pointRows a_pointSorts thrown used rooted size outSize points takenOut great at_ fault open_ wrong by_ sort variable_ z.1 kind left_ right_ bits rows z.2.1 z.2.2) none) args s 0 0 (va_A ws0 sz)) (F0 m 273 ls [.int s0]) := by
  obtain ⟨F, hr, hlk, hNw⟩ := id CX
  have hx := F.1
  have hb := F.2.1
  have hown := F.2.2.2.1
  have hA : ∀ q, s.heap.size ≤ q → va_A ws0 sz q := fun q hq => Or.inr (hsz ▸ hq)
  intro pointCount pointRows pointSorts y5 y6 y7 y9 s0 H locs ls h hP hD hS hl
  unfold f_X7_collect_273 at h
  refine lv_istore (lv' := [(8, .int s0), (0, .ref a0), (5, .int y5), (6, .int y6), (7, .int y7), (9, .int y9)]) hx hb dX7_collect_273 hl (by decide) rfl (fun ls hl => ?_)
  refine lv_iinc (v := y9 + 1) (lv' := [(9, .int (y9 + 1)), (8, .int s0), (0, .ref a0), (5, .int y5), (6, .int y6), (7, .int y7)]) hx hb dX7_collect_275 hl (k := 5) rfl rfl (by decide) rfl (fun ls hl => ?_)
  refine lv_goto (tgt := 230) hx hb dX7_collect_278 (by decide) ?_
  exact hK230 pointCount pointRows pointSorts y5 y6 y7 s0 (y9 + 1) _ _ _ h hP hD hS (lv_sub hl [2, 3, 4, 5, 1, 0] rfl)
set_option maxHeartbeats 4000000 in
set_option maxRecDepth 100000 in
theorem w_X7_collect_281 (CX : Cx p m c cX7_collect 10 s args x0 RX7 meth none) (hK : va_K D vwCl (ty0 cI cJ cB) s) (hsz : s.heap.size = sz) (ih_X7_collect : CP_X7_collect l D cI cJ cB (rmg_collect d) R_X7_collect) {K199 : Int32 → Int32 → (Nat → Int32) → (Nat → Int32) → (Nat → Int32) → (Nat → Int32) → (Nat → Int32) → (Nat → Int32) → (Nat → Int32) → Int32 → Int32 → Int32 → Option ((Int32) × (Nat → Int32) × (Nat → Int32))} (hK199 : ∀ (pointCount : Int32) (pointRows : Nat → Int32) (pointSorts : Nat → Int32) (y5 : Int32) (y6 : Int32) (y7 : Int32) (H : Heap) (locs : List Loc) (ls : Array Slot), K199 variable_ pointCount kind left_ right_ bits rows pointRows pointSorts y5 y6 y7 = some z → va_P D vwCl (ws_X7_collect cI cJ cB a0 a_many a_table a_roots a_moved a_text a_out a_above a_below a_row a_sum a_point a_kind a_left a_right a_bits a_rows a_pointRows a_pointSorts thrown used rooted size outSize points takenOut great at_ fault open_ wrong by_ sort variable_ pointCount kind left_ right_ bits rows pointRows pointSorts) H → va_D (va_A ws0 sz) (ws_X7_collect cI cJ cB a0 a_many a_table a_roots a_moved a_text a_out a_above a_below a_row a_sum a_point a_kind a_left a_right a_bits a_rows a_pointRows a_pointSorts thrown used rooted size outSize points takenOut great at_ fault open_ wrong by_ sort variable_ pointCount kind left_ right_ bits rows pointRows pointSorts) → va_S (va_A ws0 sz) s.heap H locs → lv_has ls 10 [(0, .ref a0), (5, .int y5), (6, .int y6), (7, .int y7)] → W p l e (rmg_collect (d + 1)) s m args below meth c H locs 0 0 (MQ below (gQ D sz ws0 (ws_X7_collect cI cJ cB a0 a_many a_table a_roots a_moved a_text a_out a_above a_below a_row a_sum a_point a_kind a_left a_right a_bits a_rows a_pointRows a_pointSorts thrown used rooted size outSize points takenOut great at_ fault open_ wrong by_ sort variable_ z.1 kind left_ right_ bits rows z.2.1 z.2.2) none) args s 0 0 (va_A ws0 sz)) (F0 m 199 ls [])) : ∀ (pointCount : Int32) (pointRows : Nat → Int32) (pointSorts : Nat → Int32) (y5 : Int32) (y6 : Int32) (y7 : Int32) (y8 : Int32) (H : Heap) (locs : List Loc) (ls : Array Slot), f_X7_collect_281 R_X7_collect K199 N variable_ pointCount kind left_ right_ bits rows pointRows pointSorts y5 y6 y7 y8 = some z → va_P D vwCl (ws_X7_collect cI cJ cB a0 a_many a_table a_roots a_moved a_text a_out a_above a_below a_row a_sum a_point a_kind a_left a_right a_bits a_rows a_pointRows a_pointSorts thrown used rooted size outSize points takenOut great at_ fault open_ wrong by_ sort variable_ pointCount kind left_ right_ bits rows pointRows pointSorts) H → va_D (va_A ws0 sz) (ws_X7_collect cI cJ cB a0 a_many a_table a_roots a_moved a_text a_out a_above a_below a_row a_sum a_point a_kind a_left a_right a_bits a_rows a_pointRows a_pointSorts thrown used rooted size outSize points takenOut great at_ fault open_ wrong by_ sort variable_ pointCount kind left_ right_ bits rows pointRows pointSorts) → va_S (va_A ws0 sz) s.heap H locs → lv_has ls 10 [(0, .ref a0), (5, .int y5), (6, .int y6), (7, .int y7), (8, .int y8)] → W p l e (rmg_collect (d + 1)) s m args below meth c H locs 0 0 (MQ below (gQ D sz ws0 (ws_X7_collect cI cJ cB a0 a_many a_table a_roots a_moved a_text a_out a_above a_below a_row a_sum a_point a_kind a_left a_right a_bits a_rows a_pointRows a_pointSorts thrown used rooted size outSize points takenOut great at_ fault open_ wrong by_ sort variable_ z.1 kind left_ right_ bits rows z.2.1 z.2.2) none) args s 0 0 (va_A ws0 sz)) (F0 m 281 ls []) := by
  obtain ⟨F, hr, hlk, hNw⟩ := id CX
  have hx := F.1
  have hb := F.2.1
  have hown := F.2.2.2.1
  have hA : ∀ q, s.heap.size ≤ q → va_A ws0 sz q := fun q hq => Or.inr (hsz ▸ hq)
  intro pointCount pointRows pointSorts y5 y6 y7 y8 H locs ls h hP hD hS hl
  unfold f_X7_collect_281 at h
  refine lv_iload hx hb dX7_collect_281 (lv_at hl 4 rfl) ?_
  refine lv_if_eq (tgt := 287) hx hb dX7_collect_283 (by decide) (fun c283 => ?_) (fun c283 => ?_)
  · have h := o_t c283 h
    refine lv_iinc (v := y7 + 1) (lv' := [(7, .int (y7 + 1)), (0, .ref a0), (5, .int y5), (6, .int y6), (8, .int y8)]) hx hb dX7_collect_287 hl (k := 3) rfl rfl (by decide) rfl (fun ls hl => ?_)
    refine lv_goto (tgt := 199) hx hb dX7_collect_290 (by decide) ?_
    exact hK199 pointCount pointRows pointSorts y5 y6 (y7 + 1) _ _ _ h hP hD hS (lv_sub hl [1, 2, 3, 0] rfl)
  · have h := o_f c283 h
    obtain rfl := Option.some.inj h
    exact r_vret F hr hlk dX7_collect_286 hsz hP hD hS
set_option maxHeartbeats 4000000 in
set_option maxRecDepth 100000 in
theorem w_X7_collect_230 (CX : Cx p m c cX7_collect 10 s args x0 RX7 meth none) (hK : va_K D vwCl (ty0 cI cJ cB) s) (hsz : s.heap.size = sz) (ih_X7_collect : CP_X7_collect l D cI cJ cB (rmg_collect d) R_X7_collect) {K199 : Int32 → Int32 → (Nat → Int32) → (Nat → Int32) → (Nat → Int32) → (Nat → Int32) → (Nat → Int32) → (Nat → Int32) → (Nat → Int32) → Int32 → Int32 → Int32 → Option ((Int32) × (Nat → Int32) × (Nat → Int32))} (hK199 : ∀ (pointCount : Int32) (pointRows : Nat → Int32) (pointSorts : Nat → Int32) (y5 : Int32) (y6 : Int32) (y7 : Int32) (H : Heap) (locs : List Loc) (ls : Array Slot), K199 variable_ pointCount kind left_ right_ bits rows pointRows pointSorts y5 y6 y7 = some z → va_P D vwCl (ws_X7_collect cI cJ cB a0 a_many a_table a_roots a_moved a_text a_out a_above a_below a_row a_sum a_point a_kind a_left a_right a_bits a_rows a_pointRows a_pointSorts thrown used rooted size outSize points takenOut great at_ fault open_ wrong by_ sort variable_ pointCount kind left_ right_ bits rows pointRows pointSorts) H → va_D (va_A ws0 sz) (ws_X7_collect cI cJ cB a0 a_many a_table a_roots a_moved a_text a_out a_above a_below a_row a_sum a_point a_kind a_left a_right a_bits a_rows a_pointRows a_pointSorts thrown used rooted size outSize points takenOut great at_ fault open_ wrong by_ sort variable_ pointCount kind left_ right_ bits rows pointRows pointSorts) → va_S (va_A ws0 sz) s.heap H locs → lv_has ls 10 [(0, .ref a0), (5, .int y5), (6, .int y6), (7, .int y7)] → W p l e (rmg_collect (d + 1)) s m args below meth c H locs 0 0 (MQ below (gQ D sz ws0 (ws_X7_collect cI cJ cB a0 a_many a_table a_roots a_moved a_text a_out a_above a_below a_row a_sum a_point a_kind a_left a_right a_bits a_rows a_pointRows a_pointSorts thrown used rooted size outSize points takenOut great at_ fault open_ wrong by_ sort variable_ z.1 kind left_ right_ bits rows z.2.1 z.2.2) none) args s 0 0 (va_A ws0 sz)) (F0 m 199 ls [])) : ∀ (n : Nat), ∀ (pointCount : Int32) (pointRows : Nat → Int32) (pointSorts : Nat → Int32) (y5 : Int32) (y6 : Int32) (y7 : Int32) (y8 : Int32) (y9 : Int32) (H : Heap) (locs : List Loc) (ls : Array Slot), f_X7_collect_230 R_X7_collect K199 N n variable_ pointCount kind left_ right_ bits rows pointRows pointSorts y5 y6 y7 y8 y9 = some z → va_P D vwCl (ws_X7_collect cI cJ cB a0 a_many a_table a_roots a_moved a_text a_out a_above a_below a_row a_sum a_point a_kind a_left a_right a_bits a_rows a_pointRows a_pointSorts thrown used rooted size outSize points takenOut great at_ fault open_ wrong by_ sort variable_ pointCount kind left_ right_ bits rows pointRows pointSorts) H → va_D (va_A ws0 sz) (ws_X7_collect cI cJ cB a0 a_many a_table a_roots a_moved a_text a_out a_above a_below a_row a_sum a_point a_kind a_left a_right a_bits a_rows a_pointRows a_pointSorts thrown used rooted size outSize points takenOut great at_ fault open_ wrong by_ sort variable_ pointCount kind left_ right_ bits rows pointRows pointSorts) → va_S (va_A ws0 sz) s.heap H locs → lv_has ls 10 [(0, .ref a0), (5, .int y5), (6, .int y6), (7, .int y7), (8, .int y8), (9, .int y9)] → W p l e (rmg_collect (d + 1)) s m args below meth c H locs 0 0 (MQ below (gQ D sz ws0 (ws_X7_collect cI cJ cB a0 a_many a_table a_roots a_moved a_text a_out a_above a_below a_row a_sum a_point a_kind a_left a_right a_bits a_rows a_pointRows a_pointSorts thrown used rooted size outSize points takenOut great at_ fault open_ wrong by_ sort variable_ z.1 kind left_ right_ bits rows z.2.1 z.2.2) none) args s 0 0 (va_A ws0 sz)) (F0 m 230 ls []) := by
  obtain ⟨F, hr, hlk, hNw⟩ := id CX
  have hx := F.1
  have hb := F.2.1
  have hown := F.2.2.2.1
  have hA : ∀ q, s.heap.size ≤ q → va_A ws0 sz q := fun q hq => Or.inr (hsz ▸ hq)
  intro n
  induction n with
  | zero =>
    intro pointCount pointRows pointSorts y5 y6 y7 y8 y9 H locs ls h
    cases h
  | succ n ih =>
    intro pointCount pointRows pointSorts y5 y6 y7 y8 y9 H locs ls h hP hD hS hl
    unfold f_X7_collect_230 at h
    refine lv_iload hx hb dX7_collect_230 (lv_at hl 5 rfl) ?_
    refine lv_bipush (v := 10) hx hb dX7_collect_232 (by decide) ?_
    refine lv_icmp_ge (tgt := 281) hx hb dX7_collect_234 (by decide) (fun c234 => ?_) (fun c234 => ?_)
    · have h := o_t c234 h
      exact w_X7_collect_281 CX hK hsz (ih_X7_collect := ih_X7_collect) (hK199 := hK199) pointCount pointRows pointSorts y5 y6 y7 y8 _ _ _ h hP hD hS (lv_sub hl [0, 1, 2, 3, 4] rfl)
    · have h := o_f c234 h
      refine lv_iload hx hb dX7_collect_237 (lv_at hl 4 rfl) ?_
      refine lv_if_eq (tgt := 281) hx hb dX7_collect_239 (by decide) (fun c239 => ?_) (fun c239 => ?_)
      · have h := o_t c239 h
        exact w_X7_collect_281 CX hK hsz (ih_X7_collect := ih_X7_collect) (hK199 := hK199) pointCount pointRows pointSorts y5 y6 y7 y8 _ _ _ h hP hD hS (lv_sub hl [0, 1, 2, 3, 4] rfl)
      · have h := o_f c239 h
        refine lv_aload_n hx hb dX7_collect_242 rfl (lv_at hl 0 rfl) ?_
        refine r_get F hK hP 0 31 rfl inW_X7 wm_1123 rfl (by decide) rfl dX7_collect_243 ?_
        refine lv_bipush (v := 10) hx hb dX7_collect_246 (by decide) ?_
        refine lv_iload hx hb dX7_collect_248 (lv_at hl 3 rfl) ?_
        refine lv_imul hx hb dX7_collect_250 ?_
        refine lv_iload hx hb dX7_collect_251 (lv_at hl 5 rfl) ?_
        refine lv_iadd hx hb dX7_collect_253 ?_
        obtain ⟨hi254, h⟩ := o_ix h
        refine va_iald hx hb hK hP 6 0 rfl rfl hi254 dX7_collect_254 ?_
        refine lv_aload_n hx hb dX7_collect_255 rfl (lv_at hl 0 rfl) ?_
        refine r_get F hK hP 0 31 rfl inW_X7 wm_1123 rfl (by decide) rfl dX7_collect_256 ?_
        refine lv_iload hx hb dX7_collect_259 (lv_at hl 2 rfl) ?_
        refine lv_iload hx hb dX7_collect_261 (lv_at hl 5 rfl) ?_
        refine lv_iadd hx hb dX7_collect_263 ?_
        obtain ⟨hi264, h⟩ := o_ix h
        refine va_iald hx hb hK hP 6 0 rfl rfl hi264 dX7_collect_264 ?_
        refine lv_icmp_ne (tgt := 272) hx hb dX7_collect_265 (by decide) (fun c265 => ?_) (fun c265 => ?_)
        · have h := o_f c265 h
          refine lv_iconst (v := 0) hx hb dX7_collect_272 (by decide) ?_
          exact w_X7_collect_273 CX hK hsz (ih_X7_collect := ih_X7_collect) (hK199 := hK199) (hK230 := ih) pointCount pointRows pointSorts y5 y6 y7 y9 0 _ _ _ h hP hD hS (lv_sub hl [0, 1, 2, 3, 5] rfl)
        · have h := o_t c265 h
          refine lv_iconst (v := 1) hx hb dX7_collect_268 (by decide) ?_
          refine lv_goto (tgt := 273) hx hb dX7_collect_269 (by decide) ?_
          exact w_X7_collect_273 CX hK hsz (ih_X7_collect := ih_X7_collect) (hK199 := hK199) (hK230 := ih) pointCount pointRows pointSorts y5 y6 y7 y9 1 _ _ _ h hP hD hS (lv_sub hl [0, 1, 2, 3, 5] rfl)
set_option maxHeartbeats 4000000 in
set_option maxRecDepth 100000 in
theorem w_X7_collect_225 (CX : Cx p m c cX7_collect 10 s args x0 RX7 meth none) (hK : va_K D vwCl (ty0 cI cJ cB) s) (hsz : s.heap.size = sz) (ih_X7_collect : CP_X7_collect l D cI cJ cB (rmg_collect d) R_X7_collect) {K199 : Int32 → Int32 → (Nat → Int32) → (Nat → Int32) → (Nat → Int32) → (Nat → Int32) → (Nat → Int32) → (Nat → Int32) → (Nat → Int32) → Int32 → Int32 → Int32 → Option ((Int32) × (Nat → Int32) × (Nat → Int32))} (hK199 : ∀ (pointCount : Int32) (pointRows : Nat → Int32) (pointSorts : Nat → Int32) (y5 : Int32) (y6 : Int32) (y7 : Int32) (H : Heap) (locs : List Loc) (ls : Array Slot), K199 variable_ pointCount kind left_ right_ bits rows pointRows pointSorts y5 y6 y7 = some z → va_P D vwCl (ws_X7_collect cI cJ cB a0 a_many a_table a_roots a_moved a_text a_out a_above a_below a_row a_sum a_point a_kind a_left a_right a_bits a_rows a_pointRows a_pointSorts thrown used rooted size outSize points takenOut great at_ fault open_ wrong by_ sort variable_ pointCount kind left_ right_ bits rows pointRows pointSorts) H → va_D (va_A ws0 sz) (ws_X7_collect cI cJ cB a0 a_many a_table a_roots a_moved a_text a_out a_above a_below a_row a_sum a_point a_kind a_left a_right a_bits a_rows a_pointRows a_pointSorts thrown used rooted size outSize points takenOut great at_ fault open_ wrong by_ sort variable_ pointCount kind left_ right_ bits rows pointRows pointSorts) → va_S (va_A ws0 sz) s.heap H locs → lv_has ls 10 [(0, .ref a0), (5, .int y5), (6, .int y6), (7, .int y7)] → W p l e (rmg_collect (d + 1)) s m args below meth c H locs 0 0 (MQ below (gQ D sz ws0 (ws_X7_collect cI cJ cB a0 a_many a_table a_roots a_moved a_text a_out a_above a_below a_row a_sum a_point a_kind a_left a_right a_bits a_rows a_pointRows a_pointSorts thrown used rooted size outSize points takenOut great at_ fault open_ wrong by_ sort variable_ z.1 kind left_ right_ bits rows z.2.1 z.2.2) none) args s 0 0 (va_A ws0 sz)) (F0 m 199 ls [])) : ∀ (pointCount : Int32) (pointRows : Nat → Int32) (pointSorts : Nat → Int32) (y5 : Int32) (y6 : Int32) (y7 : Int32) (s0 : Int32) (H : Heap) (locs : List Loc) (ls : Array Slot), f_X7_collect_225 R_X7_collect K199 N variable_ pointCount kind left_ right_ bits rows pointRows pointSorts y5 y6 y7 s0 = some z → va_P D vwCl (ws_X7_collect cI cJ cB a0 a_many a_table a_roots a_moved a_text a_out a_above a_below a_row a_sum a_point a_kind a_left a_right a_bits a_rows a_pointRows a_pointSorts thrown used rooted size outSize points takenOut great at_ fault open_ wrong by_ sort variable_ pointCount kind left_ right_ bits rows pointRows pointSorts) H → va_D (va_A ws0 sz) (ws_X7_collect cI cJ cB a0 a_many a_table a_roots a_moved a_text a_out a_above a_below a_row a_sum a_point a_kind a_left a_right a_bits a_rows a_pointRows a_pointSorts thrown used rooted size outSize points takenOut great at_ fault open_ wrong by_ sort variable_ pointCount kind left_ right_ bits rows pointRows pointSorts) → va_S (va_A ws0 sz) s.heap H locs → lv_has ls 10 [(0, .ref a0), (5, .int y5), (6, .int y6), (7, .int y7)] → W p l e (rmg_collect (d + 1)) s m args below meth c H locs 0 0 (MQ below (gQ D sz ws0 (ws_X7_collect cI cJ cB a0 a_many a_table a_roots a_moved a_text a_out a_above a_below a_row a_sum a_point a_kind a_left a_right a_bits a_rows a_pointRows a_pointSorts thrown used rooted size outSize points takenOut great at_ fault open_ wrong by_ sort variable_ z.1 kind left_ right_ bits rows z.2.1 z.2.2) none) args s 0 0 (va_A ws0 sz)) (F0 m 225 ls [.int s0]) := by
  obtain ⟨F, hr, hlk, hNw⟩ := id CX
  have hx := F.1
  have hb := F.2.1
  have hown := F.2.2.2.1
  have hA : ∀ q, s.heap.size ≤ q → va_A ws0 sz q := fun q hq => Or.inr (hsz ▸ hq)
  intro pointCount pointRows pointSorts y5 y6 y7 s0 H locs ls h hP hD hS hl
  unfold f_X7_collect_225 at h
  refine lv_istore (lv' := [(8, .int s0), (0, .ref a0), (5, .int y5), (6, .int y6), (7, .int y7)]) hx hb dX7_collect_225 hl (by decide) rfl (fun ls hl => ?_)
  refine lv_iconst (v := 0) hx hb dX7_collect_227 (by decide) ?_
  refine lv_istore (lv' := [(9, .int 0), (8, .int s0), (0, .ref a0), (5, .int y5), (6, .int y6), (7, .int y7)]) hx hb dX7_collect_228 hl (by decide) rfl (fun ls hl => ?_)
  exact w_X7_collect_230 CX hK hsz (ih_X7_collect := ih_X7_collect) (hK199 := hK199) N pointCount pointRows pointSorts y5 y6 y7 s0 0 _ _ _ h hP hD hS (lv_sub hl [2, 3, 4, 5, 1, 0] rfl)
set_option maxHeartbeats 4000000 in
set_option maxRecDepth 100000 in
theorem w_X7_collect_199 (CX : Cx p m c cX7_collect 10 s args x0 RX7 meth none) (hK : va_K D vwCl (ty0 cI cJ cB) s) (hsz : s.heap.size = sz) (ih_X7_collect : CP_X7_collect l D cI cJ cB (rmg_collect d) R_X7_collect) : ∀ (n : Nat), ∀ (pointCount : Int32) (pointRows : Nat → Int32) (pointSorts : Nat → Int32) (y5 : Int32) (y6 : Int32) (y7 : Int32) (H : Heap) (locs : List Loc) (ls : Array Slot), f_X7_collect_199 R_X7_collect N n variable_ pointCount kind left_ right_ bits rows pointRows pointSorts y5 y6 y7 = some z → va_P D vwCl (ws_X7_collect cI cJ cB a0 a_many a_table a_roots a_moved a_text a_out a_above a_below a_row a_sum a_point a_kind a_left a_right a_bits a_rows a_pointRows a_pointSorts thrown used rooted size outSize points takenOut great at_ fault open_ wrong by_ sort variable_ pointCount kind left_ right_ bits rows pointRows pointSorts) H → va_D (va_A ws0 sz) (ws_X7_collect cI cJ cB a0 a_many a_table a_roots a_moved a_text a_out a_above a_below a_row a_sum a_point a_kind a_left a_right a_bits a_rows a_pointRows a_pointSorts thrown used rooted size outSize points takenOut great at_ fault open_ wrong by_ sort variable_ pointCount kind left_ right_ bits rows pointRows pointSorts) → va_S (va_A ws0 sz) s.heap H locs → lv_has ls 10 [(0, .ref a0), (5, .int y5), (6, .int y6), (7, .int y7)] → W p l e (rmg_collect (d + 1)) s m args below meth c H locs 0 0 (MQ below (gQ D sz ws0 (ws_X7_collect cI cJ cB a0 a_many a_table a_roots a_moved a_text a_out a_above a_below a_row a_sum a_point a_kind a_left a_right a_bits a_rows a_pointRows a_pointSorts thrown used rooted size outSize points takenOut great at_ fault open_ wrong by_ sort variable_ z.1 kind left_ right_ bits rows z.2.1 z.2.2) none) args s 0 0 (va_A ws0 sz)) (F0 m 199 ls []) := by
  obtain ⟨F, hr, hlk, hNw⟩ := id CX
  have hx := F.1
  have hb := F.2.1
  have hown := F.2.2.2.1
  have hA : ∀ q, s.heap.size ≤ q → va_A ws0 sz q := fun q hq => Or.inr (hsz ▸ hq)
  intro n
  induction n with
  | zero =>
    intro pointCount pointRows pointSorts y5 y6 y7 H locs ls h
    cases h
  | succ n ih =>
    intro pointCount pointRows pointSorts y5 y6 y7 H locs ls h hP hD hS hl
    unfold f_X7_collect_199 at h
    refine lv_iload hx hb dX7_collect_199 (lv_at hl 3 rfl) ?_
    refine lv_aload_n hx hb dX7_collect_201 rfl (lv_at hl 0 rfl) ?_
    refine r_get F hK hP 0 33 rfl inW_X7 wm_1125 rfl (by decide) rfl dX7_collect_202 ?_
    refine lv_icmp_ge (tgt := 293) hx hb dX7_collect_205 (by decide) (fun c205 => ?_) (fun c205 => ?_)
    · have h := o_t c205 h
      refine lv_aload_n hx hb dX7_collect_293 rfl (lv_at hl 0 rfl) ?_
      refine r_get F hK hP 0 32 rfl inW_X7 wm_1124 rfl (by decide) rfl dX7_collect_294 ?_
      refine lv_aload_n hx hb dX7_collect_297 rfl (lv_at hl 0 rfl) ?_
      refine r_get F hK hP 0 33 rfl inW_X7 wm_1125 rfl (by decide) rfl dX7_collect_298 ?_
      refine lv_iload hx hb dX7_collect_301 (lv_at hl 1 rfl) ?_
      obtain ⟨hi303, h⟩ := o_ix h
      refine r_iast (wn := (ws_X7_collect cI cJ cB a0 a_many a_table a_roots a_moved a_text a_out a_above a_below a_row a_sum a_point a_kind a_left a_right a_bits a_rows a_pointRows a_pointSorts thrown used rooted size outSize points takenOut great at_ fault open_ wrong by_ sort variable_ pointCount kind left_ right_ bits rows pointRows (upd pointSorts pointCount.toNatClampNeg y5))) F hK hP hD hS 7 0 hi303 rfl rfl rfl dX7_collect_303 (fun H locs hP hD hS => ?_)
      refine lv_aload_n hx hb dX7_collect_304 rfl (lv_at hl 0 rfl) ?_
      refine lv_dup hx hb dX7_collect_305 rfl ?_
      refine r_get F hK hP 0 33 rfl inW_X7 wm_1125 rfl (by decide) rfl dX7_collect_306 ?_
      refine lv_iconst (v := 1) hx hb dX7_collect_309 (by decide) ?_
      refine lv_iadd hx hb dX7_collect_310 ?_
      refine r_put (wn := (ws_X7_collect cI cJ cB a0 a_many a_table a_roots a_moved a_text a_out a_above a_below a_row a_sum a_point a_kind a_left a_right a_bits a_rows a_pointRows a_pointSorts thrown used rooted size outSize points takenOut great at_ fault open_ wrong by_ sort variable_ (pointCount + 1) kind left_ right_ bits rows pointRows (upd pointSorts pointCount.toNatClampNeg y5))) F hK hP hD hS 0 33 rfl inW_X7 wm_1125 tyX7_ok nmX7 rfl rfl (by decide) rfl rfl (Nat.le_of_ble_eq_true rfl) rfl dX7_collect_311 (fun H locs hP hD hS => ?_)
      obtain rfl := Option.some.inj h
      exact r_vret F hr hlk dX7_collect_314 hsz hP hD hS
    · have h := o_f c205 h
      refine lv_aload_n hx hb dX7_collect_208 rfl (lv_at hl 0 rfl) ?_
      refine r_get F hK hP 0 32 rfl inW_X7 wm_1124 rfl (by decide) rfl dX7_collect_209 ?_
      refine lv_iload hx hb dX7_collect_212 (lv_at hl 3 rfl) ?_
      obtain ⟨hi214, h⟩ := o_ix h
      refine va_iald hx hb hK hP 7 0 rfl rfl hi214 dX7_collect_214 ?_
      refine lv_iload hx hb dX7_collect_215 (lv_at hl 1 rfl) ?_
      refine lv_icmp_ne (tgt := 224) hx hb dX7_collect_217 (by decide) (fun c217 => ?_) (fun c217 => ?_)
      · have h := o_f c217 h
        refine lv_iconst (v := 0) hx hb dX7_collect_224 (by decide) ?_
        exact w_X7_collect_225 CX hK hsz (ih_X7_collect := ih_X7_collect) (hK199 := ih) pointCount pointRows pointSorts y5 y6 y7 0 _ _ _ h hP hD hS (lv_sub hl [0, 1, 2, 3] rfl)
      · have h := o_t c217 h
        refine lv_iconst (v := 1) hx hb dX7_collect_220 (by decide) ?_
        refine lv_goto (tgt := 225) hx hb dX7_collect_221 (by decide) ?_
        exact w_X7_collect_225 CX hK hsz (ih_X7_collect := ih_X7_collect) (hK199 := ih) pointCount pointRows pointSorts y5 y6 y7 1 _ _ _ h hP hD hS (lv_sub hl [0, 1, 2, 3] rfl)
set_option maxHeartbeats 4000000 in
set_option maxRecDepth 100000 in
theorem w_X7_collect_195 (CX : Cx p m c cX7_collect 10 s args x0 RX7 meth none) (hK : va_K D vwCl (ty0 cI cJ cB) s) (hsz : s.heap.size = sz) (ih_X7_collect : CP_X7_collect l D cI cJ cB (rmg_collect d) R_X7_collect) : ∀ (pointCount : Int32) (pointRows : Nat → Int32) (pointSorts : Nat → Int32) (y2 : Int32) (y5 : Int32) (y6 : Int32) (s1 : Int32) (s2 : Int32) (H : Heap) (locs : List Loc) (ls : Array Slot), f_X7_collect_195 R_X7_collect N variable_ pointCount kind left_ right_ bits rows pointRows pointSorts y2 y5 y6 s1 s2 = some z → va_P D vwCl (ws_X7_collect cI cJ cB a0 a_many a_table a_roots a_moved a_text a_out a_above a_below a_row a_sum a_point a_kind a_left a_right a_bits a_rows a_pointRows a_pointSorts thrown used rooted size outSize points takenOut great at_ fault open_ wrong by_ sort variable_ pointCount kind left_ right_ bits rows pointRows pointSorts) H → va_D (va_A ws0 sz) (ws_X7_collect cI cJ cB a0 a_many a_table a_roots a_moved a_text a_out a_above a_below a_row a_sum a_point a_kind a_left a_right a_bits a_rows a_pointRows a_pointSorts thrown used rooted size outSize points takenOut great at_ fault open_ wrong by_ sort variable_ pointCount kind left_ right_ bits rows pointRows pointSorts) → va_S (va_A ws0 sz) s.heap H locs → lv_has ls 10 [(0, .ref a0), (2, .int y2), (5, .int y5), (6, .int y6)] → W p l e (rmg_collect (d + 1)) s m args below meth c H locs 0 0 (MQ below (gQ D sz ws0 (ws_X7_collect cI cJ cB a0 a_many a_table a_roots a_moved a_text a_out a_above a_below a_row a_sum a_point a_kind a_left a_right a_bits a_rows a_pointRows a_pointSorts thrown used rooted size outSize points takenOut great at_ fault open_ wrong by_ sort variable_ z.1 kind left_ right_ bits rows z.2.1 z.2.2) none) args s 0 0 (va_A ws0 sz)) (F0 m 195 ls [.int s2, .int s1, .ref a_pointRows]) := by
  obtain ⟨F, hr, hlk, hNw⟩ := id CX
  have hx := F.1
  have hb := F.2.1
  have hown := F.2.2.2.1
  have hA : ∀ q, s.heap.size ≤ q → va_A ws0 sz q := fun q hq => Or.inr (hsz ▸ hq)
  intro pointCount pointRows pointSorts y2 y5 y6 s1 s2 H locs ls h hP hD hS hl
  unfold f_X7_collect_195 at h
  obtain ⟨hi195, h⟩ := o_ix h
  refine r_iast (wn := (ws_X7_collect cI cJ cB a0 a_many a_table a_roots a_moved a_text a_out a_above a_below a_row a_sum a_point a_kind a_left a_right a_bits a_rows a_pointRows a_pointSorts thrown used rooted size outSize points takenOut great at_ fault open_ wrong by_ sort variable_ pointCount kind left_ right_ bits rows (upd pointRows s1.toNatClampNeg s2) pointSorts)) F hK hP hD hS 6 0 hi195 rfl rfl rfl dX7_collect_195 (fun H locs hP hD hS => ?_)
  refine lv_iload_n hx hb dX7_collect_196 rfl (lv_at hl 1 rfl) ?_
  refine lv_istore (lv' := [(7, .int y2), (0, .ref a0), (2, .int y2), (5, .int y5), (6, .int y6)]) hx hb dX7_collect_197 hl (by decide) rfl (fun ls hl => ?_)
  exact w_X7_collect_199 CX hK hsz (ih_X7_collect := ih_X7_collect) N pointCount (upd pointRows s1.toNatClampNeg s2) pointSorts y5 y6 y2 _ _ _ h hP hD hS (lv_sub hl [1, 3, 4, 0] rfl)
set_option maxHeartbeats 4000000 in
set_option maxRecDepth 100000 in
theorem w_X7_collect_114 (CX : Cx p m c cX7_collect 10 s args x0 RX7 meth none) (hK : va_K D vwCl (ty0 cI cJ cB) s) (hsz : s.heap.size = sz) (ih_X7_collect : CP_X7_collect l D cI cJ cB (rmg_collect d) R_X7_collect) : ∀ (n : Nat), ∀ (pointCount : Int32) (pointRows : Nat → Int32) (pointSorts : Nat → Int32) (y1 : Int32) (y2 : Int32) (y3 : Int32) (y5 : Int32) (y6 : Int32) (y7 : Int32) (H : Heap) (locs : List Loc) (ls : Array Slot), f_X7_collect_114 R_X7_collect N n variable_ pointCount kind left_ right_ bits rows pointRows pointSorts y1 y2 y3 y5 y6 y7 = some z → va_P D vwCl (ws_X7_collect cI cJ cB a0 a_many a_table a_roots a_moved a_text a_out a_above a_below a_row a_sum a_point a_kind a_left a_right a_bits a_rows a_pointRows a_pointSorts thrown used rooted size outSize points takenOut great at_ fault open_ wrong by_ sort variable_ pointCount kind left_ right_ bits rows pointRows pointSorts) H → va_D (va_A ws0 sz) (ws_X7_collect cI cJ cB a0 a_many a_table a_roots a_moved a_text a_out a_above a_below a_row a_sum a_point a_kind a_left a_right a_bits a_rows a_pointRows a_pointSorts thrown used rooted size outSize points takenOut great at_ fault open_ wrong by_ sort variable_ pointCount kind left_ right_ bits rows pointRows pointSorts) → va_S (va_A ws0 sz) s.heap H locs → lv_has ls 10 [(0, .ref a0), (1, .int y1), (2, .int y2), (3, .int y3), (5, .int y5), (6, .int y6), (7, .int y7)] → W p l e (rmg_collect (d + 1)) s m args below meth c H locs 0 0 (MQ below (gQ D sz ws0 (ws_X7_collect cI cJ cB a0 a_many a_table a_roots a_moved a_text a_out a_above a_below a_row a_sum a_point a_kind a_left a_right a_bits a_rows a_pointRows a_pointSorts thrown used rooted size outSize points takenOut great at_ fault open_ wrong by_ sort variable_ z.1 kind left_ right_ bits rows z.2.1 z.2.2) none) args s 0 0 (va_A ws0 sz)) (F0 m 114 ls []) := by
  obtain ⟨F, hr, hlk, hNw⟩ := id CX
  have hx := F.1
  have hb := F.2.1
  have hown := F.2.2.2.1
  have hA : ∀ q, s.heap.size ≤ q → va_A ws0 sz q := fun q hq => Or.inr (hsz ▸ hq)
  intro n
  induction n with
  | zero =>
    intro pointCount pointRows pointSorts y1 y2 y3 y5 y6 y7 H locs ls h
    cases h
  | succ n ih =>
    intro pointCount pointRows pointSorts y1 y2 y3 y5 y6 y7 H locs ls h hP hD hS hl
    unfold f_X7_collect_114 at h
    refine lv_iload hx hb dX7_collect_114 (lv_at hl 6 rfl) ?_
    refine lv_bipush (v := 9) hx hb dX7_collect_116 (by decide) ?_
    refine lv_icmp_ge (tgt := 176) hx hb dX7_collect_118 (by decide) (fun c118 => ?_) (fun c118 => ?_)
    · have h := o_t c118 h
      refine lv_aload_n hx hb dX7_collect_176 rfl (lv_at hl 0 rfl) ?_
      refine r_get F hK hP 0 31 rfl inW_X7 wm_1123 rfl (by decide) rfl dX7_collect_177 ?_
      refine lv_iload hx hb dX7_collect_180 (lv_at hl 5 rfl) ?_
      refine lv_bipush (v := 9) hx hb dX7_collect_182 (by decide) ?_
      refine lv_iadd hx hb dX7_collect_184 ?_
      refine lv_iload_n hx hb dX7_collect_185 rfl (lv_at hl 3 rfl) ?_
      refine lv_if_ge (tgt := 194) hx hb dX7_collect_186 (by decide) (fun c186 => ?_) (fun c186 => ?_)
      · have h := o_t c186 h
        refine lv_iload_n hx hb dX7_collect_194 rfl (lv_at hl 3 rfl) ?_
        exact w_X7_collect_195 CX hK hsz (ih_X7_collect := ih_X7_collect) pointCount pointRows pointSorts y2 y5 y6 (y6 + 9) y3 _ _ _ h hP hD hS (lv_sub hl [0, 2, 4, 5] rfl)
      · have h := o_f c186 h
        refine lv_iload_n hx hb dX7_collect_189 rfl (lv_at hl 3 rfl) ?_
        refine lv_ineg hx hb dX7_collect_190 ?_
        refine lv_goto (tgt := 195) hx hb dX7_collect_191 (by decide) ?_
        exact w_X7_collect_195 CX hK hsz (ih_X7_collect := ih_X7_collect) pointCount pointRows pointSorts y2 y5 y6 (y6 + 9) (-y3) _ _ _ h hP hD hS (lv_sub hl [0, 2, 4, 5] rfl)
    · have h := o_f c118 h
      refine lv_iload hx hb dX7_collect_121 (lv_at hl 6 rfl) ?_
      refine lv_aload_n hx hb dX7_collect_123 rfl (lv_at hl 0 rfl) ?_
      refine r_get F hK hP 0 30 rfl inW_X7 wm_1122 rfl (by decide) rfl dX7_collect_124 ?_
      refine lv_icmp_ne (tgt := 134) hx hb dX7_collect_127 (by decide) (fun c127 => ?_) (fun c127 => ?_)
      · have h := o_f c127 h
        refine lv_aload_n hx hb dX7_collect_134 rfl (lv_at hl 0 rfl) ?_
        refine r_get F hK hP 0 6 rfl inW_X7 wm_1098 rfl (by decide) rfl dX7_collect_135 ?_
        refine lv_bipush (v := 9) hx hb dX7_collect_138 (by decide) ?_
        refine lv_iload_n hx hb dX7_collect_140 rfl (lv_at hl 1 rfl) ?_
        refine lv_imul hx hb dX7_collect_141 ?_
        refine lv_iload hx hb dX7_collect_142 (lv_at hl 6 rfl) ?_
        refine lv_iadd hx hb dX7_collect_144 ?_
        obtain ⟨hi145, h⟩ := o_ix h
        refine va_iald hx hb hK hP 5 0 rfl rfl hi145 dX7_collect_145 ?_
        exact w_X7_collect_146 CX hK hsz (ih_X7_collect := ih_X7_collect) (hK114 := ih) pointCount pointRows pointSorts y1 y2 y3 y5 y6 y7 (rows ((9 * y1) + y7).toNatClampNeg) _ _ _ h hP hD hS (lv_sub hl [0, 1, 2, 3, 4, 5, 6] rfl)
      · have h := o_t c127 h
        refine lv_iconst (v := 0) hx hb dX7_collect_130 (by decide) ?_
        refine lv_goto (tgt := 146) hx hb dX7_collect_131 (by decide) ?_
        exact w_X7_collect_146 CX hK hsz (ih_X7_collect := ih_X7_collect) (hK114 := ih) pointCount pointRows pointSorts y1 y2 y3 y5 y6 y7 0 _ _ _ h hP hD hS (lv_sub hl [0, 1, 2, 3, 4, 5, 6] rfl)
set_option maxHeartbeats 4000000 in
set_option maxRecDepth 100000 in
theorem w_X7_collect_100 (CX : Cx p m c cX7_collect 10 s args x0 RX7 meth none) (hK : va_K D vwCl (ty0 cI cJ cB) s) (hsz : s.heap.size = sz) (ih_X7_collect : CP_X7_collect l D cI cJ cB (rmg_collect d) R_X7_collect) : ∀ (pointCount : Int32) (pointRows : Nat → Int32) (pointSorts : Nat → Int32) (y1 : Int32) (y2 : Int32) (y3 : Int32) (s0 : Int32) (H : Heap) (locs : List Loc) (ls : Array Slot), f_X7_collect_100 R_X7_collect N variable_ pointCount kind left_ right_ bits rows pointRows pointSorts y1 y2 y3 s0 = some z → va_P D vwCl (ws_X7_collect cI cJ cB a0 a_many a_table a_roots a_moved a_text a_out a_above a_below a_row a_sum a_point a_kind a_left a_right a_bits a_rows a_pointRows a_pointSorts thrown used rooted size outSize points takenOut great at_ fault open_ wrong by_ sort variable_ pointCount kind left_ right_ bits rows pointRows pointSorts) H → va_D (va_A ws0 sz) (ws_X7_collect cI cJ cB a0 a_many a_table a_roots a_moved a_text a_out a_above a_below a_row a_sum a_point a_kind a_left a_right a_bits a_rows a_pointRows a_pointSorts thrown used rooted size outSize points takenOut great at_ fault open_ wrong by_ sort variable_ pointCount kind left_ right_ bits rows pointRows pointSorts) → va_S (va_A ws0 sz) s.heap H locs → lv_has ls 10 [(0, .ref a0), (1, .int y1), (2, .int y2), (3, .int y3)] → W p l e (rmg_collect (d + 1)) s m args below meth c H locs 0 0 (MQ below (gQ D sz ws0 (ws_X7_collect cI cJ cB a0 a_many a_table a_roots a_moved a_text a_out a_above a_below a_row a_sum a_point a_kind a_left a_right a_bits a_rows a_pointRows a_pointSorts thrown used rooted size outSize points takenOut great at_ fault open_ wrong by_ sort variable_ z.1 kind left_ right_ bits rows z.2.1 z.2.2) none) args s 0 0 (va_A ws0 sz)) (F0 m 100 ls [.int s0]) := by
  obtain ⟨F, hr, hlk, hNw⟩ := id CX
  have hx := F.1
  have hb := F.2.1
  have hown := F.2.2.2.1
  have hA : ∀ q, s.heap.size ≤ q → va_A ws0 sz q := fun q hq => Or.inr (hsz ▸ hq)
  intro pointCount pointRows pointSorts y1 y2 y3 s0 H locs ls h hP hD hS hl
  unfold f_X7_collect_100 at h
  refine lv_istore (lv' := [(5, .int s0), (0, .ref a0), (1, .int y1), (2, .int y2), (3, .int y3)]) hx hb dX7_collect_100 hl (by decide) rfl (fun ls hl => ?_)
  refine lv_bipush (v := 10) hx hb dX7_collect_102 (by decide) ?_
  refine lv_aload_n hx hb dX7_collect_104 rfl (lv_at hl 1 rfl) ?_
  refine r_get F hK hP 0 33 rfl inW_X7 wm_1125 rfl (by decide) rfl dX7_collect_105 ?_
  refine lv_imul hx hb dX7_collect_108 ?_
  refine lv_istore (lv' := [(6, .int (10 * pointCount)), (5, .int s0), (0, .ref a0), (1, .int y1), (2, .int y2), (3, .int y3)]) hx hb dX7_collect_109 hl (by decide) rfl (fun ls hl => ?_)
  refine lv_iconst (v := 0) hx hb dX7_collect_111 (by decide) ?_
  refine lv_istore (lv' := [(7, .int 0), (6, .int (10 * pointCount)), (5, .int s0), (0, .ref a0), (1, .int y1), (2, .int y2), (3, .int y3)]) hx hb dX7_collect_112 hl (by decide) rfl (fun ls hl => ?_)
  exact w_X7_collect_114 CX hK hsz (ih_X7_collect := ih_X7_collect) N pointCount pointRows pointSorts y1 y2 y3 s0 (10 * pointCount) 0 _ _ _ h hP hD hS (lv_sub hl [3, 4, 5, 6, 2, 1, 0] rfl)
set_option maxHeartbeats 4000000 in
set_option maxRecDepth 100000 in
theorem w_X7_collect_95 (CX : Cx p m c cX7_collect 10 s args x0 RX7 meth none) (hK : va_K D vwCl (ty0 cI cJ cB) s) (hsz : s.heap.size = sz) (ih_X7_collect : CP_X7_collect l D cI cJ cB (rmg_collect d) R_X7_collect) : ∀ (pointCount : Int32) (pointRows : Nat → Int32) (pointSorts : Nat → Int32) (y1 : Int32) (y2 : Int32) (y3 : Int32) (H : Heap) (locs : List Loc) (ls : Array Slot), f_X7_collect_95 R_X7_collect N variable_ pointCount kind left_ right_ bits rows pointRows pointSorts y1 y2 y3 = some z → va_P D vwCl (ws_X7_collect cI cJ cB a0 a_many a_table a_roots a_moved a_text a_out a_above a_below a_row a_sum a_point a_kind a_left a_right a_bits a_rows a_pointRows a_pointSorts thrown used rooted size outSize points takenOut great at_ fault open_ wrong by_ sort variable_ pointCount kind left_ right_ bits rows pointRows pointSorts) H → va_D (va_A ws0 sz) (ws_X7_collect cI cJ cB a0 a_many a_table a_roots a_moved a_text a_out a_above a_below a_row a_sum a_point a_kind a_left a_right a_bits a_rows a_pointRows a_pointSorts thrown used rooted size outSize points takenOut great at_ fault open_ wrong by_ sort variable_ pointCount kind left_ right_ bits rows pointRows pointSorts) → va_S (va_A ws0 sz) s.heap H locs → lv_has ls 10 [(0, .ref a0), (1, .int y1), (2, .int y2), (3, .int y3)] → W p l e (rmg_collect (d + 1)) s m args below meth c H locs 0 0 (MQ below (gQ D sz ws0 (ws_X7_collect cI cJ cB a0 a_many a_table a_roots a_moved a_text a_out a_above a_below a_row a_sum a_point a_kind a_left a_right a_bits a_rows a_pointRows a_pointSorts thrown used rooted size outSize points takenOut great at_ fault open_ wrong by_ sort variable_ z.1 kind left_ right_ bits rows z.2.1 z.2.2) none) args s 0 0 (va_A ws0 sz)) (F0 m 95 ls []) := by
  obtain ⟨F, hr, hlk, hNw⟩ := id CX
  have hx := F.1
  have hb := F.2.1
  have hown := F.2.2.2.1
  have hA : ∀ q, s.heap.size ≤ q → va_A ws0 sz q := fun q hq => Or.inr (hsz ▸ hq)
  intro pointCount pointRows pointSorts y1 y2 y3 H locs ls h hP hD hS hl
  unfold f_X7_collect_95 at h
  refine lv_iconst (v := 1) hx hb dX7_collect_95 (by decide) ?_
  refine lv_goto (tgt := 100) hx hb dX7_collect_96 (by decide) ?_
  exact w_X7_collect_100 CX hK hsz (ih_X7_collect := ih_X7_collect) pointCount pointRows pointSorts y1 y2 y3 1 _ _ _ h hP hD hS (lv_sub hl [0, 1, 2, 3] rfl)
set_option maxHeartbeats 4000000 in
set_option maxRecDepth 100000 in
theorem w_X7_collect_84 (CX : Cx p m c cX7_collect 10 s args x0 RX7 meth none) (hK : va_K D vwCl (ty0 cI cJ cB) s) (hsz : s.heap.size = sz) (ih_X7_collect : CP_X7_collect l D cI cJ cB (rmg_collect d) R_X7_collect) : ∀ (pointCount : Int32) (pointRows : Nat → Int32) (pointSorts : Nat → Int32) (y1 : Int32) (y2 : Int32) (y3 : Int32) (y4 : Int32) (H : Heap) (locs : List Loc) (ls : Array Slot), f_X7_collect_84 R_X7_collect N variable_ pointCount kind left_ right_ bits rows pointRows pointSorts y1 y2 y3 y4 = some z → va_P D vwCl (ws_X7_collect cI cJ cB a0 a_many a_table a_roots a_moved a_text a_out a_above a_below a_row a_sum a_point a_kind a_left a_right a_bits a_rows a_pointRows a_pointSorts thrown used rooted size outSize points takenOut great at_ fault open_ wrong by_ sort variable_ pointCount kind left_ right_ bits rows pointRows pointSorts) H → va_D (va_A ws0 sz) (ws_X7_collect cI cJ cB a0 a_many a_table a_roots a_moved a_text a_out a_above a_below a_row a_sum a_point a_kind a_left a_right a_bits a_rows a_pointRows a_pointSorts thrown used rooted size outSize points takenOut great at_ fault open_ wrong by_ sort variable_ pointCount kind left_ right_ bits rows pointRows pointSorts) → va_S (va_A ws0 sz) s.heap H locs → lv_has ls 10 [(0, .ref a0), (1, .int y1), (2, .int y2), (3, .int y3), (4, .int y4)] → W p l e (rmg_collect (d + 1)) s m args below meth c H locs 0 0 (MQ below (gQ D sz ws0 (ws_X7_collect cI cJ cB a0 a_many a_table a_roots a_moved a_text a_out a_above a_below a_row a_sum a_point a_kind a_left a_right a_bits a_rows a_pointRows a_pointSorts thrown used rooted size outSize points takenOut great at_ fault open_ wrong by_ sort variable_ z.1 kind left_ right_ bits rows z.2.1 z.2.2) none) args s 0 0 (va_A ws0 sz)) (F0 m 84 ls []) := by
  obtain ⟨F, hr, hlk, hNw⟩ := id CX
  have hx := F.1
  have hb := F.2.1
  have hown := F.2.2.2.1
  have hA : ∀ q, s.heap.size ≤ q → va_A ws0 sz q := fun q hq => Or.inr (hsz ▸ hq)
  intro pointCount pointRows pointSorts y1 y2 y3 y4 H locs ls h hP hD hS hl
  unfold f_X7_collect_84 at h
  refine lv_iload hx hb dX7_collect_84 (lv_at hl 4 rfl) ?_
  refine lv_if_eq (tgt := 95) hx hb dX7_collect_86 (by decide) (fun c86 => ?_) (fun c86 => ?_)
  · have h := o_t c86 h
    exact w_X7_collect_95 CX hK hsz (ih_X7_collect := ih_X7_collect) pointCount pointRows pointSorts y1 y2 y3 _ _ _ h hP hD hS (lv_sub hl [0, 1, 2, 3] rfl)
  · have h := o_f c86 h
    refine lv_iload hx hb dX7_collect_89 (lv_at hl 4 rfl) ?_
    refine lv_iconst (v := 3) hx hb dX7_collect_91 (by decide) ?_
    refine lv_icmp_ne (tgt := 99) hx hb dX7_collect_92 (by decide) (fun c92 => ?_) (fun c92 => ?_)
    · have h := o_f c92 h
      refine lv_iconst (v := 2) hx hb dX7_collect_99 (by decide) ?_
      exact w_X7_collect_100 CX hK hsz (ih_X7_collect := ih_X7_collect) pointCount pointRows pointSorts y1 y2 y3 2 _ _ _ h hP hD hS (lv_sub hl [0, 1, 2, 3] rfl)
    · have h := o_t c92 h
      exact w_X7_collect_95 CX hK hsz (ih_X7_collect := ih_X7_collect) pointCount pointRows pointSorts y1 y2 y3 _ _ _ h hP hD hS (lv_sub hl [0, 1, 2, 3] rfl)
end G_X7_collect
set_option maxHeartbeats 4000000 in
set_option maxRecDepth 100000 in
theorem cF_X7_collect (l : Launch) (D : va_G) (cI cJ cB : ClassId) (N d : Nat) {R_X7_collect : Int32 → Int32 → (Nat → Int32) → (Nat → Int32) → (Nat → Int32) → (Nat → Int32) → (Nat → Int32) → (Nat → Int32) → (Nat → Int32) → Int32 → Int32 → Option ((Int32) × (Nat → Int32) × (Nat → Int32))} (ih_X7_collect : CP_X7_collect l D cI cJ cB (rmg_collect d) R_X7_collect) : CP_X7_collect l D cI cJ cB (rmg_collect (d + 1)) (F_X7_collect R_X7_collect N) := by
  intro a0 a_many a_table a_roots a_moved a_text a_out a_above a_below a_row a_sum a_point a_kind a_left a_right a_bits a_rows a_pointRows a_pointSorts sz thrown used rooted size outSize points takenOut great at_ fault open_ wrong by_ sort variable_ pointCount kind left_ right_ bits rows pointRows pointSorts x1 x2 z h
  refine Mg.of (by decide) (Nat.le_of_ble_eq_true rfl) ?_
  intro p e s m below meth c CX hK hsz hP hD ls hl
  have CX : Cx p m c cX7_collect 10 s ([.ref a0, .int x1, .int x2] : List Value).toArray (Cond.code yX7_collect cX7_collect 10 none) RX7 meth none := CX
  obtain ⟨F, hr, hlk, hNw⟩ := id CX
  have hx := F.1
  have hb := F.2.1
  have hown := F.2.2.2.1
  have hl : lv_has ls 10 [(0, .ref a0), (1, .int x1), (2, .int x2)] := hl
  have hS : va_S (va_A (ws_X7_collect cI cJ cB a0 a_many a_table a_roots a_moved a_text a_out a_above a_below a_row a_sum a_point a_kind a_left a_right a_bits a_rows a_pointRows a_pointSorts thrown used rooted size outSize points takenOut great at_ fault open_ wrong by_ sort variable_ pointCount kind left_ right_ bits rows pointRows pointSorts) sz) s.heap s.heap [] := va_S.rf
  have hA : ∀ q, s.heap.size ≤ q → va_A (ws_X7_collect cI cJ cB a0 a_many a_table a_roots a_moved a_text a_out a_above a_below a_row a_sum a_point a_kind a_left a_right a_bits a_rows a_pointRows a_pointSorts thrown used rooted size outSize points takenOut great at_ fault open_ wrong by_ sort variable_ pointCount kind left_ right_ bits rows pointRows pointSorts) sz q := fun q hq => Or.inr (hsz ▸ hq)
  unfold F_X7_collect at h
  refine lv_aload_n hx hb dX7_collect_0 rfl (lv_at hl 0 rfl) ?_
  refine r_get F hK hP 0 5 rfl inW_X7 wm_1097 rfl (by decide) rfl dX7_collect_1 ?_
  refine lv_iload_n hx hb dX7_collect_4 rfl (lv_at hl 1 rfl) ?_
  obtain ⟨hi5, h⟩ := o_ix h
  refine va_iald hx hb hK hP 4 0 rfl rfl hi5 dX7_collect_5 ?_
  refine lv_aload_n hx hb dX7_collect_6 rfl (lv_at hl 0 rfl) ?_
  refine r_get F hK hP 0 30 rfl inW_X7 wm_1122 rfl (by decide) rfl dX7_collect_7 ?_
  refine lv_ishr hx hb dX7_collect_10 ?_
  refine lv_iconst (v := 1) hx hb dX7_collect_11 (by decide) ?_
  refine lv_iand hx hb dX7_collect_12 ?_
  refine lv_if_ne (tgt := 17) hx hb dX7_collect_13 (by decide) (fun c13 => ?_) (fun c13 => ?_)
  · have h := o_f c13 h
    refine lv_aload_n hx hb dX7_collect_17 rfl (lv_at hl 0 rfl) ?_
    refine r_get F hK hP 0 1 rfl inW_X7 wm_1093 rfl (by decide) rfl dX7_collect_18 ?_
    refine lv_iload_n hx hb dX7_collect_21 rfl (lv_at hl 1 rfl) ?_
    obtain ⟨hi22, h⟩ := o_ix h
    refine va_iald hx hb hK hP 1 0 rfl rfl hi22 dX7_collect_22 ?_
    refine lv_iconst (v := 2) hx hb dX7_collect_23 (by decide) ?_
    refine lv_icmp_eq (tgt := 50) hx hb dX7_collect_24 (by decide) (fun c24 => ?_) (fun c24 => ?_)
    · have h := o_t c24 h
      refine lv_aload_n hx hb dX7_collect_50 rfl (lv_at hl 0 rfl) ?_
      refine r_get F hK hP 0 6 rfl inW_X7 wm_1098 rfl (by decide) rfl dX7_collect_51 ?_
      refine lv_bipush (v := 9) hx hb dX7_collect_54 (by decide) ?_
      refine lv_iload_n hx hb dX7_collect_56 rfl (lv_at hl 1 rfl) ?_
      refine lv_imul hx hb dX7_collect_57 ?_
      refine lv_aload_n hx hb dX7_collect_58 rfl (lv_at hl 0 rfl) ?_
      refine r_get F hK hP 0 30 rfl inW_X7 wm_1122 rfl (by decide) rfl dX7_collect_59 ?_
      refine lv_iadd hx hb dX7_collect_62 ?_
      obtain ⟨hi63, h⟩ := o_ix h
      refine va_iald hx hb hK hP 5 0 rfl rfl hi63 dX7_collect_63 ?_
      refine lv_istore_n (lv' := [(3, .int (rows ((9 * x1) + variable_).toNatClampNeg)), (0, .ref a0), (1, .int x1), (2, .int x2)]) hx hb dX7_collect_64 rfl hl (by decide) rfl (fun ls hl => ?_)
      refine lv_aload_n hx hb dX7_collect_65 rfl (lv_at hl 1 rfl) ?_
      refine r_get F hK hP 0 2 rfl inW_X7 wm_1094 rfl (by decide) rfl dX7_collect_66 ?_
      refine lv_iload_n hx hb dX7_collect_69 rfl (lv_at hl 2 rfl) ?_
      obtain ⟨hi70, h⟩ := o_ix h
      refine va_iald hx hb hK hP 2 0 rfl rfl hi70 dX7_collect_70 ?_
      refine lv_istore (lv' := [(4, .int (left_ x1.toNatClampNeg)), (3, .int (rows ((9 * x1) + variable_).toNatClampNeg)), (0, .ref a0), (1, .int x1), (2, .int x2)]) hx hb dX7_collect_71 hl (by decide) rfl (fun ls hl => ?_)
      refine lv_iload hx hb dX7_collect_73 (lv_at hl 0 rfl) ?_
      refine lv_iconst (v := 2) hx hb dX7_collect_75 (by decide) ?_
      refine lv_icmp_lt (tgt := 84) hx hb dX7_collect_76 (by decide) (fun c76 => ?_) (fun c76 => ?_)
      · have h := o_t c76 h
        exact w_X7_collect_84 CX hK hsz (ih_X7_collect := ih_X7_collect) pointCount pointRows pointSorts x1 x2 (rows ((9 * x1) + variable_).toNatClampNeg) (left_ x1.toNatClampNeg) _ _ _ h hP hD hS (lv_sub hl [2, 3, 4, 1, 0] rfl)
      · have h := o_f c76 h
        refine lv_iload_n hx hb dX7_collect_79 rfl (lv_at hl 1 rfl) ?_
        refine lv_if_le (tgt := 84) hx hb dX7_collect_80 (by decide) (fun c80 => ?_) (fun c80 => ?_)
        · have h := o_t c80 h
          exact w_X7_collect_84 CX hK hsz (ih_X7_collect := ih_X7_collect) pointCount pointRows pointSorts x1 x2 (rows ((9 * x1) + variable_).toNatClampNeg) (left_ x1.toNatClampNeg) _ _ _ h hP hD hS (lv_sub hl [2, 3, 4, 1, 0] rfl)
        · have h := o_f c80 h
          obtain rfl := Option.some.inj h
          exact r_vret F hr hlk dX7_collect_83 hsz hP hD hS
    · have h := o_f c24 h
      refine lv_aload_n hx hb dX7_collect_27 rfl (lv_at hl 0 rfl) ?_
      refine lv_aload_n hx hb dX7_collect_28 rfl (lv_at hl 0 rfl) ?_
      refine r_get F hK hP 0 2 rfl inW_X7 wm_1094 rfl (by decide) rfl dX7_collect_29 ?_
      refine lv_iload_n hx hb dX7_collect_32 rfl (lv_at hl 1 rfl) ?_
      obtain ⟨hi33, h⟩ := o_ix h
      refine va_iald hx hb hK hP 2 0 rfl rfl hi33 dX7_collect_33 ?_
      refine lv_iload_n hx hb dX7_collect_34 rfl (lv_at hl 2 rfl) ?_
      obtain ⟨z35, hz35, h⟩ := o_b h
      refine k_v (wn := (ws_X7_collect cI cJ cB a0 a_many a_table a_roots a_moved a_text a_out a_above a_below a_row a_sum a_point a_kind a_left a_right a_bits a_rows a_pointRows a_pointSorts thrown used rooted size outSize points takenOut great at_ fault open_ wrong by_ sort variable_ z35.1 kind left_ right_ bits rows z35.2.1 z35.2.2)) (As := [.int (left_ x1.toNatClampNeg), .int x2]) (rest := []) F hNw hK hP hD hS hA (ih_X7_collect a0 a_many a_table a_roots a_moved a_text a_out a_above a_below a_row a_sum a_point a_kind a_left a_right a_bits a_rows a_pointRows a_pointSorts _ thrown used rooted size outSize points takenOut great at_ fault open_ wrong by_ sort variable_ pointCount kind left_ right_ bits rows pointRows pointSorts (left_ x1.toNatClampNeg) x2 hz35) wm_1314 cv_X7_collect [0, 1, 2, 3, 4, 5, 6, 7] [] [0, 1, 2, 3, 4, 5, 6, 7] (⟨rfl, rfl, rfl, by decide, rfl⟩ : Ix [0, 1, 2, 3, 4, 5, 6, 7] [] [0, 1, 2, 3, 4, 5, 6, 7] 8) rfl (hN_of 0 8 (by decide +kernel) rfl (by decide +kernel) rfl) rfl rfl rfl rfl ⟨rfl, rfl, by show 0 + d + 1 ≤ 0 + (d + 1); omega, by show 8 + (10 + 11) + (0 + 29 * d) ≤ 0 + 29 * (d + 1); omega⟩ hl.1 rfl (Nat.le_of_ble_eq_true rfl) ⟨Nat.zero_le _, Nat.zero_le _⟩ dX7_collect_35 (fun H locs hP hD hS => ?_)
      refine lv_aload_n hx hb dX7_collect_38 rfl (lv_at hl 0 rfl) ?_
      refine lv_aload_n hx hb dX7_collect_39 rfl (lv_at hl 0 rfl) ?_
      refine r_get F hK hP 0 3 rfl inW_X7 wm_1095 rfl (by decide) rfl dX7_collect_40 ?_
      refine lv_iload_n hx hb dX7_collect_43 rfl (lv_at hl 1 rfl) ?_
      obtain ⟨hi44, h⟩ := o_ix h
      refine va_iald hx hb hK hP 3 0 rfl rfl hi44 dX7_collect_44 ?_
      refine lv_iload_n hx hb dX7_collect_45 rfl (lv_at hl 2 rfl) ?_
      obtain ⟨z46, hz46, h⟩ := o_b h
      refine k_v (wn := (ws_X7_collect cI cJ cB a0 a_many a_table a_roots a_moved a_text a_out a_above a_below a_row a_sum a_point a_kind a_left a_right a_bits a_rows a_pointRows a_pointSorts thrown used rooted size outSize points takenOut great at_ fault open_ wrong by_ sort variable_ z46.1 kind left_ right_ bits rows z46.2.1 z46.2.2)) (As := [.int (right_ x1.toNatClampNeg), .int x2]) (rest := []) F hNw hK hP hD hS hA (ih_X7_collect a0 a_many a_table a_roots a_moved a_text a_out a_above a_below a_row a_sum a_point a_kind a_left a_right a_bits a_rows a_pointRows a_pointSorts _ thrown used rooted size outSize points takenOut great at_ fault open_ wrong by_ sort variable_ z35.1 kind left_ right_ bits rows z35.2.1 z35.2.2 (right_ x1.toNatClampNeg) x2 hz46) wm_1314 cv_X7_collect [0, 1, 2, 3, 4, 5, 6, 7] [] [0, 1, 2, 3, 4, 5, 6, 7] (⟨rfl, rfl, rfl, by decide, rfl⟩ : Ix [0, 1, 2, 3, 4, 5, 6, 7] [] [0, 1, 2, 3, 4, 5, 6, 7] 8) rfl (hN_of 0 8 (by decide +kernel) rfl (by decide +kernel) rfl) rfl rfl rfl rfl ⟨rfl, rfl, by show 0 + d + 1 ≤ 0 + (d + 1); omega, by show 8 + (10 + 11) + (0 + 29 * d) ≤ 0 + 29 * (d + 1); omega⟩ hl.1 rfl (Nat.le_of_ble_eq_true rfl) ⟨Nat.zero_le _, Nat.zero_le _⟩ dX7_collect_46 (fun H locs hP hD hS => ?_)
      obtain rfl := Option.some.inj h
      exact r_vret F hr hlk dX7_collect_49 hsz hP hD hS
  · have h := o_t c13 h
    obtain rfl := Option.some.inj h
    exact r_vret F hr hlk dX7_collect_16 hsz hP hD hS
def fg_collect (N : Nat) : Nat → (Int32 → Int32 → (Nat → Int32) → (Nat → Int32) → (Nat → Int32) → (Nat → Int32) → (Nat → Int32) → (Nat → Int32) → (Nat → Int32) → Int32 → Int32 → Option ((Int32) × (Nat → Int32) × (Nat → Int32)))
  | 0 => fun _ _ _ _ _ _ _ _ _ _ _ => none
  | d + 1 => F_X7_collect (fg_collect N d) N
theorem cg_collect (l : Launch) (D : va_G) (cI cJ cB : ClassId) (N : Nat) : ∀ d : Nat, CP_X7_collect l D cI cJ cB (rmg_collect d) (fg_collect N d) := by
  intro d
  induction d with
  | zero =>
    exact (by intro a0 a_many a_table a_roots a_moved a_text a_out a_above a_below a_row a_sum a_point a_kind a_left a_right a_bits a_rows a_pointRows a_pointSorts sz thrown used rooted size outSize points takenOut great at_ fault open_ wrong by_ sort variable_ pointCount kind left_ right_ bits rows pointRows pointSorts x1 x2 z h; cases h)
  | succ d ih =>
    exact cF_X7_collect l D cI cJ cB N d ih
def f_X7_collect (N : Nat) (variable_ : Int32) (pointCount : Int32) (kind : Nat → Int32) (left_ : Nat → Int32) (right_ : Nat → Int32) (bits : Nat → Int32) (rows : Nat → Int32) (pointRows : Nat → Int32) (pointSorts : Nat → Int32) (x1 : Int32) (x2 : Int32) : Option ((Int32) × (Nat → Int32) × (Nat → Int32)) := (fg_collect N 450) variable_ pointCount kind left_ right_ bits rows pointRows pointSorts x1 x2
abbrev rm_X7_collect : Room := { frames := 450, cells := 0, slots := 0, locals := 13050 }
theorem c_X7_collect (l : Launch) (D : va_G) (cI cJ cB : ClassId) (a0 a_many a_table a_roots a_moved a_text a_out a_above a_below a_row a_sum a_point a_kind a_left a_right a_bits a_rows a_pointRows a_pointSorts : Nat) (sz : Nat) (thrown : Int32) (used : Int32) (rooted : Int32) (size : Int32) (outSize : Int32) (points : Int32) (takenOut : Int32) (great : Int32) (at_ : Int32) (fault : Int32) (open_ : Int32) (wrong : Int32) (by_ : Int64) (sort : Int32) (variable_ : Int32) (pointCount : Int32) (kind : Nat → Int32) (left_ : Nat → Int32) (right_ : Nat → Int32) (bits : Nat → Int32) (rows : Nat → Int32) (pointRows : Nat → Int32) (pointSorts : Nat → Int32) (x1 : Int32) (x2 : Int32) (N : Nat) {z : (Int32) × (Nat → Int32) × (Nat → Int32)} (h : f_X7_collect N variable_ pointCount kind left_ right_ bits rows pointRows pointSorts x1 x2 = some z) : Mg l yX7_collect cX7_collect 10 none rm_X7_collect D (ty0 cI cJ cB) [.ref a0, .int x1, .int x2] sz (ws_X7_collect cI cJ cB a0 a_many a_table a_roots a_moved a_text a_out a_above a_below a_row a_sum a_point a_kind a_left a_right a_bits a_rows a_pointRows a_pointSorts thrown used rooted size outSize points takenOut great at_ fault open_ wrong by_ sort variable_ pointCount kind left_ right_ bits rows pointRows pointSorts) none (ws_X7_collect cI cJ cB a0 a_many a_table a_roots a_moved a_text a_out a_above a_below a_row a_sum a_point a_kind a_left a_right a_bits a_rows a_pointRows a_pointSorts thrown used rooted size outSize points takenOut great at_ fault open_ wrong by_ sort variable_ z.1 kind left_ right_ bits rows z.2.1 z.2.2) :=
  (cg_collect l D cI cJ cB N 450) a0 a_many a_table a_roots a_moved a_text a_out a_above a_below a_row a_sum a_point a_kind a_left a_right a_bits a_rows a_pointRows a_pointSorts sz thrown used rooted size outSize points takenOut great at_ fault open_ wrong by_ sort variable_ pointCount kind left_ right_ bits rows pointRows pointSorts x1 x2 h
abbrev rmg_isTrue (d : Nat) : Room := { frames := 0 + d, cells := 0, slots := 0, locals := 0 + 24 * d }
abbrev ws_X7_isTrue (cI cJ cB : ClassId) (a0 a_many a_bits a_table a_roots a_moved a_text a_out a_row a_sum a_point a_pointRows a_pointSorts a_kind a_left a_right a_rows a_above a_below : Nat) (thrown : Int32) (used : Int32) (rooted : Int32) (size : Int32) (outSize : Int32) (points : Int32) (takenOut : Int32) (great : Int32) (at_ : Int32) (fault : Int32) (open_ : Int32) (wrong : Int32) (by_ : Int64) (sort : Int32) (variable_ : Int32) (pointCount : Int32) (kind : Nat → Int32) (left_ : Nat → Int32) (right_ : Nat → Int32) (rows : Nat → Int32) (above : Nat → Int32) (below_ : Nat → Int32) : va_W := [(a0, .inr (9, [.int thrown, .ref a_kind, .ref a_left, .ref a_right, .ref a_many, .ref a_bits, .ref a_rows, .ref a_table, .int used, .ref a_roots, .int rooted, .ref a_moved, .ref a_text, .int size, .ref a_out, .int outSize, .ref a_above, .ref a_below, .int points, .int takenOut, .int great, .ref a_row, .int at_, .int fault, .int open_, .int wrong, .ref a_sum, .ref a_point, .long by_, .int sort, .int variable_, .ref a_pointRows, .ref a_pointSorts, .int pointCount])), (a_kind, .inl (cI, 24000, .inl kind)), (a_left, .inl (cI, 24000, .inl left_)), (a_right, .inl (cI, 24000, .inl right_)), (a_rows, .inl (cI, 216000, .inl rows)), (a_above, .inl (cI, 8, .inl above)), (a_below, .inl (cI, 8, .inl below_))]
def CP_X7_isTrue (l : Launch) (D : va_G) (cI cJ cB : ClassId) (rm : Room) (f : (Nat → Int32) → (Nat → Int32) → (Nat → Int32) → (Nat → Int32) → (Nat → Int32) → (Nat → Int32) → Int32 → Option (Int32)) : Prop := ∀ (a0 a_many a_bits a_table a_roots a_moved a_text a_out a_row a_sum a_point a_pointRows a_pointSorts a_kind a_left a_right a_rows a_above a_below : Nat) (sz : Nat) (thrown : Int32) (used : Int32) (rooted : Int32) (size : Int32) (outSize : Int32) (points : Int32) (takenOut : Int32) (great : Int32) (at_ : Int32) (fault : Int32) (open_ : Int32) (wrong : Int32) (by_ : Int64) (sort : Int32) (variable_ : Int32) (pointCount : Int32) (kind : Nat → Int32) (left_ : Nat → Int32) (right_ : Nat → Int32) (rows : Nat → Int32) (above : Nat → Int32) (below_ : Nat → Int32) (x1 : Int32) {z : Int32}, f kind left_ right_ rows above below_ x1 = some z → Mg l yX7_isTrue cX7_isTrue 5 (some .boolean) rm D (ty0 cI cJ cB) [.ref a0, .int x1] sz (ws_X7_isTrue cI cJ cB a0 a_many a_bits a_table a_roots a_moved a_text a_out a_row a_sum a_point a_pointRows a_pointSorts a_kind a_left a_right a_rows a_above a_below thrown used rooted size outSize points takenOut great at_ fault open_ wrong by_ sort variable_ pointCount kind left_ right_ rows above below_) (some (.int z)) (ws_X7_isTrue cI cJ cB a0 a_many a_bits a_table a_roots a_moved a_text a_out a_row a_sum a_point a_pointRows a_pointSorts a_kind a_left a_right a_rows a_above a_below thrown used rooted size outSize points takenOut great at_ fault open_ wrong by_ sort variable_ pointCount kind left_ right_ rows above below_)
section G_X7_isTrue
def f_X7_isTrue_24 (R_X7_isTrue : (Nat → Int32) → (Nat → Int32) → (Nat → Int32) → (Nat → Int32) → (Nat → Int32) → (Nat → Int32) → Int32 → Option (Int32)) (N : Nat) (kind : Nat → Int32) (left_ : Nat → Int32) (right_ : Nat → Int32) (rows : Nat → Int32) (above : Nat → Int32) (below_ : Nat → Int32) (s0 : Int32) : Option (Int32) := ckp (s0 = 0 ∨ s0 = 1) (some s0)
def f_X7_isTrue_185 (R_X7_isTrue : (Nat → Int32) → (Nat → Int32) → (Nat → Int32) → (Nat → Int32) → (Nat → Int32) → (Nat → Int32) → Int32 → Option (Int32)) (N : Nat) (kind : Nat → Int32) (left_ : Nat → Int32) (right_ : Nat → Int32) (rows : Nat → Int32) (above : Nat → Int32) (below_ : Nat → Int32) (s0 : Int32) : Option (Int32) := ckp (s0 = 0 ∨ s0 = 1) (some s0)
def f_X7_isTrue_56 (R_X7_isTrue : (Nat → Int32) → (Nat → Int32) → (Nat → Int32) → (Nat → Int32) → (Nat → Int32) → (Nat → Int32) → Int32 → Option (Int32)) (N : Nat) : Nat → (Nat → Int32) → (Nat → Int32) → (Nat → Int32) → (Nat → Int32) → (Nat → Int32) → (Nat → Int32) → Int32 → Int64 → Int32 → Option (Int32)
  | 0 => fun _ _ _ _ _ _ _ _ _ => none
  | n + 1 => fun kind left_ right_ rows above below_ y1 y2 y4 => ifb (8 ≤ y4) (ix y1 24000 (ifb ((left_ y1.toNatClampNeg) = 0) (ifb ((lg_cmp y2 0) = 0) (f_X7_isTrue_185 R_X7_isTrue N kind left_ right_ rows above below_ 1) (f_X7_isTrue_185 R_X7_isTrue N kind left_ right_ rows above below_ 0)) (ifb ((left_ y1.toNatClampNeg) = 1) (ifb ((lg_cmp y2 0) = 0) (f_X7_isTrue_185 R_X7_isTrue N kind left_ right_ rows above below_ 0) (f_X7_isTrue_185 R_X7_isTrue N kind left_ right_ rows above below_ 1)) (ifb ((left_ y1.toNatClampNeg) = 2) (ifb (0 ≤ (lg_cmp y2 0)) (f_X7_isTrue_185 R_X7_isTrue N kind left_ right_ rows above below_ 0) (f_X7_isTrue_185 R_X7_isTrue N kind left_ right_ rows above below_ 1)) (ifb (0 < (lg_cmp y2 0)) (f_X7_isTrue_185 R_X7_isTrue N kind left_ right_ rows above below_ 0) (f_X7_isTrue_185 R_X7_isTrue N kind left_ right_ rows above below_ 1)))))) (ix ((9 * y1) + y4) 216000 (ix y4 8 (ix y4 8 (ckp (¬ ((below_ y4.toNatClampNeg).toInt64) = 0) (f_X7_isTrue_56 R_X7_isTrue N n kind left_ right_ rows above below_ y1 (y2 + ((((rows ((9 * y1) + y4).toNatClampNeg).toInt64) * ((above y4.toNatClampNeg).toInt64)) * (2520 / ((below_ y4.toNatClampNeg).toInt64)))) (y4 + 1))))))
def f_X7_isTrue_247 (R_X7_isTrue : (Nat → Int32) → (Nat → Int32) → (Nat → Int32) → (Nat → Int32) → (Nat → Int32) → (Nat → Int32) → Int32 → Option (Int32)) (N : Nat) (kind : Nat → Int32) (left_ : Nat → Int32) (right_ : Nat → Int32) (rows : Nat → Int32) (above : Nat → Int32) (below_ : Nat → Int32) (s0 : Int32) : Option (Int32) := ckp (s0 = 0 ∨ s0 = 1) (some s0)
def f_X7_isTrue_230 (R_X7_isTrue : (Nat → Int32) → (Nat → Int32) → (Nat → Int32) → (Nat → Int32) → (Nat → Int32) → (Nat → Int32) → Int32 → Option (Int32)) (N : Nat) (kind : Nat → Int32) (left_ : Nat → Int32) (right_ : Nat → Int32) (rows : Nat → Int32) (above : Nat → Int32) (below_ : Nat → Int32) : Option (Int32) := f_X7_isTrue_247 R_X7_isTrue N kind left_ right_ rows above below_ 0
def f_X7_isTrue_242 (R_X7_isTrue : (Nat → Int32) → (Nat → Int32) → (Nat → Int32) → (Nat → Int32) → (Nat → Int32) → (Nat → Int32) → Int32 → Option (Int32)) (N : Nat) (kind : Nat → Int32) (left_ : Nat → Int32) (right_ : Nat → Int32) (rows : Nat → Int32) (above : Nat → Int32) (below_ : Nat → Int32) : Option (Int32) := f_X7_isTrue_247 R_X7_isTrue N kind left_ right_ rows above below_ 1
def F_X7_isTrue (R_X7_isTrue : (Nat → Int32) → (Nat → Int32) → (Nat → Int32) → (Nat → Int32) → (Nat → Int32) → (Nat → Int32) → Int32 → Option (Int32)) (N : Nat) (kind : Nat → Int32) (left_ : Nat → Int32) (right_ : Nat → Int32) (rows : Nat → Int32) (above : Nat → Int32) (below_ : Nat → Int32) (x1 : Int32) : Option (Int32) := ix x1 24000 (ifb (2 ≤ (kind x1.toNatClampNeg)) (ix x1 24000 (ifb ((kind x1.toNatClampNeg) = 2) (ix ((9 * x1) + 8) 216000 (f_X7_isTrue_56 R_X7_isTrue N N kind left_ right_ rows above below_ x1 (2520 * ((rows ((9 * x1) + 8).toNatClampNeg).toInt64)) 0)) (ix x1 24000 ((R_X7_isTrue kind left_ right_ rows above below_ (left_ x1.toNatClampNeg)).bind (fun z193 => ix x1 24000 ((R_X7_isTrue kind left_ right_ rows above below_ (right_ x1.toNatClampNeg)).bind (fun z204 => ix x1 24000 (ifb ((kind x1.toNatClampNeg) = 3) (ifb (z193 = 0) (f_X7_isTrue_230 R_X7_isTrue N kind left_ right_ rows above below_) (ifb (z204 = 0) (f_X7_isTrue_230 R_X7_isTrue N kind left_ right_ rows above below_) (f_X7_isTrue_247 R_X7_isTrue N kind left_ right_ rows above below_ 1))) (ifb (z193 = 0) (ifb (z204 = 0) (f_X7_isTrue_247 R_X7_isTrue N kind left_ right_ rows above below_ 0) (f_X7_isTrue_242 R_X7_isTrue N kind left_ right_ rows above below_)) (f_X7_isTrue_242 R_X7_isTrue N kind left_ right_ rows above below_)))))))))) (ix x1 24000 (ifb ((kind x1.toNatClampNeg) = 0) (f_X7_isTrue_24 R_X7_isTrue N kind left_ right_ rows above below_ 1) (f_X7_isTrue_24 R_X7_isTrue N kind left_ right_ rows above below_ 0))))
variable {p : Program} {l : Launch} {e : Env} {s : State} {m : MethodId} {below : List Frame} {meth : Method} {c : Code} {args : Array Value} {x0 : Cond} {D : va_G} {cI cJ cB : ClassId} {sz N : Nat} {ws0 : va_W} {a0 a_many a_bits a_table a_roots a_moved a_text a_out a_row a_sum a_point a_pointRows a_pointSorts a_kind a_left a_right a_rows a_above a_below : Nat} {thrown : Int32} {used : Int32} {rooted : Int32} {size : Int32} {outSize : Int32} {points : Int32} {takenOut : Int32} {great : Int32} {at_ : Int32} {fault : Int32} {open_ : Int32} {wrong : Int32} {by_ : Int64} {sort : Int32} {variable_ : Int32} {pointCount : Int32} {kind : Nat → Int32} {left_ : Nat → Int32} {right_ : Nat → Int32} {rows : Nat → Int32} {above : Nat → Int32} {below_ : Nat → Int32} {z : Int32} {d : Nat} {R_X7_isTrue : (Nat → Int32) → (Nat → Int32) → (Nat → Int32) → (Nat → Int32) → (Nat → Int32) → (Nat → Int32) → Int32 → Option (Int32)}
set_option maxHeartbeats 4000000 in
set_option maxRecDepth 100000 in
theorem w_X7_isTrue_24 (CX : Cx p m c cX7_isTrue 5 s args x0 RX7 meth (some .boolean)) (hK : va_K D vwCl (ty0 cI cJ cB) s) (hsz : s.heap.size = sz) (ih_X7_isTrue : CP_X7_isTrue l D cI cJ cB (rmg_isTrue d) R_X7_isTrue) : ∀ (s0 : Int32) (H : Heap) (locs : List Loc) (ls : Array Slot), f_X7_isTrue_24 R_X7_isTrue N kind left_ right_ rows above below_ s0 = some z → va_P D vwCl (ws_X7_isTrue cI cJ cB a0 a_many a_bits a_table a_roots a_moved a_text a_out a_row a_sum a_point a_pointRows a_pointSorts a_kind a_left a_right a_rows a_above a_below thrown used rooted size outSize points takenOut great at_ fault open_ wrong by_ sort variable_ pointCount kind left_ right_ rows above below_) H → va_D (va_A ws0 sz) (ws_X7_isTrue cI cJ cB a0 a_many a_bits a_table a_roots a_moved a_text a_out a_row a_sum a_point a_pointRows a_pointSorts a_kind a_left a_right a_rows a_above a_below thrown used rooted size outSize points takenOut great at_ fault open_ wrong by_ sort variable_ pointCount kind left_ right_ rows above below_) → va_S (va_A ws0 sz) s.heap H locs → lv_has ls 5 [] → W p l e (rmg_isTrue (d + 1)) s m args below meth c H locs 0 0 (MQ below (gQ D sz ws0 (ws_X7_isTrue cI cJ cB a0 a_many a_bits a_table a_roots a_moved a_text a_out a_row a_sum a_point a_pointRows a_pointSorts a_kind a_left a_right a_rows a_above a_below thrown used rooted size outSize points takenOut great at_ fault open_ wrong by_ sort variable_ pointCount kind left_ right_ rows above below_) (some (.int z))) args s 0 0 (va_A ws0 sz)) (F0 m 24 ls [.int s0]) := by
  obtain ⟨F, hr, hlk, hNw⟩ := id CX
  have hx := F.1
  have hb := F.2.1
  have hown := F.2.2.2.1
  have hA : ∀ q, s.heap.size ≤ q → va_A ws0 sz q := fun q hq => Or.inr (hsz ▸ hq)
  intro s0 H locs ls h hP hD hS hl
  unfold f_X7_isTrue_24 at h
  obtain ⟨hc24, h⟩ := o_c h
  obtain rfl := Option.some.inj h
  exact r_ret (v := s0) F hr hlk (nb01 hc24) dX7_isTrue_24 hsz hP hD hS
set_option maxHeartbeats 4000000 in
set_option maxRecDepth 100000 in
theorem w_X7_isTrue_185 (CX : Cx p m c cX7_isTrue 5 s args x0 RX7 meth (some .boolean)) (hK : va_K D vwCl (ty0 cI cJ cB) s) (hsz : s.heap.size = sz) (ih_X7_isTrue : CP_X7_isTrue l D cI cJ cB (rmg_isTrue d) R_X7_isTrue) : ∀ (s0 : Int32) (H : Heap) (locs : List Loc) (ls : Array Slot), f_X7_isTrue_185 R_X7_isTrue N kind left_ right_ rows above below_ s0 = some z → va_P D vwCl (ws_X7_isTrue cI cJ cB a0 a_many a_bits a_table a_roots a_moved a_text a_out a_row a_sum a_point a_pointRows a_pointSorts a_kind a_left a_right a_rows a_above a_below thrown used rooted size outSize points takenOut great at_ fault open_ wrong by_ sort variable_ pointCount kind left_ right_ rows above below_) H → va_D (va_A ws0 sz) (ws_X7_isTrue cI cJ cB a0 a_many a_bits a_table a_roots a_moved a_text a_out a_row a_sum a_point a_pointRows a_pointSorts a_kind a_left a_right a_rows a_above a_below thrown used rooted size outSize points takenOut great at_ fault open_ wrong by_ sort variable_ pointCount kind left_ right_ rows above below_) → va_S (va_A ws0 sz) s.heap H locs → lv_has ls 5 [] → W p l e (rmg_isTrue (d + 1)) s m args below meth c H locs 0 0 (MQ below (gQ D sz ws0 (ws_X7_isTrue cI cJ cB a0 a_many a_bits a_table a_roots a_moved a_text a_out a_row a_sum a_point a_pointRows a_pointSorts a_kind a_left a_right a_rows a_above a_below thrown used rooted size outSize points takenOut great at_ fault open_ wrong by_ sort variable_ pointCount kind left_ right_ rows above below_) (some (.int z))) args s 0 0 (va_A ws0 sz)) (F0 m 185 ls [.int s0]) := by
  obtain ⟨F, hr, hlk, hNw⟩ := id CX
  have hx := F.1
  have hb := F.2.1
  have hown := F.2.2.2.1
  have hA : ∀ q, s.heap.size ≤ q → va_A ws0 sz q := fun q hq => Or.inr (hsz ▸ hq)
  intro s0 H locs ls h hP hD hS hl
  unfold f_X7_isTrue_185 at h
  obtain ⟨hc185, h⟩ := o_c h
  obtain rfl := Option.some.inj h
  exact r_ret (v := s0) F hr hlk (nb01 hc185) dX7_isTrue_185 hsz hP hD hS
set_option maxHeartbeats 4000000 in
set_option maxRecDepth 100000 in
theorem w_X7_isTrue_56 (CX : Cx p m c cX7_isTrue 5 s args x0 RX7 meth (some .boolean)) (hK : va_K D vwCl (ty0 cI cJ cB) s) (hsz : s.heap.size = sz) (ih_X7_isTrue : CP_X7_isTrue l D cI cJ cB (rmg_isTrue d) R_X7_isTrue) : ∀ (n : Nat), ∀ (y1 : Int32) (y2 : Int64) (y4 : Int32) (H : Heap) (locs : List Loc) (ls : Array Slot), f_X7_isTrue_56 R_X7_isTrue N n kind left_ right_ rows above below_ y1 y2 y4 = some z → va_P D vwCl (ws_X7_isTrue cI cJ cB a0 a_many a_bits a_table a_roots a_moved a_text a_out a_row a_sum a_point a_pointRows a_pointSorts a_kind a_left a_right a_rows a_above a_below thrown used rooted size outSize points takenOut great at_ fault open_ wrong by_ sort variable_ pointCount kind left_ right_ rows above below_) H → va_D (va_A ws0 sz) (ws_X7_isTrue cI cJ cB a0 a_many a_bits a_table a_roots a_moved a_text a_out a_row a_sum a_point a_pointRows a_pointSorts a_kind a_left a_right a_rows a_above a_below thrown used rooted size outSize points takenOut great at_ fault open_ wrong by_ sort variable_ pointCount kind left_ right_ rows above below_) → va_S (va_A ws0 sz) s.heap H locs → lv_has ls 5 [(0, .ref a0), (1, .int y1), (2, .long y2), (4, .int y4)] → W p l e (rmg_isTrue (d + 1)) s m args below meth c H locs 0 0 (MQ below (gQ D sz ws0 (ws_X7_isTrue cI cJ cB a0 a_many a_bits a_table a_roots a_moved a_text a_out a_row a_sum a_point a_pointRows a_pointSorts a_kind a_left a_right a_rows a_above a_below thrown used rooted size outSize points takenOut great at_ fault open_ wrong by_ sort variable_ pointCount kind left_ right_ rows above below_) (some (.int z))) args s 0 0 (va_A ws0 sz)) (F0 m 56 ls []) := by
  obtain ⟨F, hr, hlk, hNw⟩ := id CX
  have hx := F.1
  have hb := F.2.1
  have hown := F.2.2.2.1
  have hA : ∀ q, s.heap.size ≤ q → va_A ws0 sz q := fun q hq => Or.inr (hsz ▸ hq)
  intro n
  induction n with
  | zero =>
    intro y1 y2 y4 H locs ls h
    cases h
  | succ n ih =>
    intro y1 y2 y4 H locs ls h hP hD hS hl
    unfold f_X7_isTrue_56 at h
    refine lv_iload hx hb dX7_isTrue_56 (lv_at hl 3 rfl) ?_
    refine lv_bipush (v := 8) hx hb dX7_isTrue_58 (by decide) ?_
    refine lv_icmp_ge (tgt := 107) hx hb dX7_isTrue_60 (by decide) (fun c60 => ?_) (fun c60 => ?_)
    · have h := o_t c60 h
      refine lv_aload_n hx hb dX7_isTrue_107 rfl (lv_at hl 0 rfl) ?_
      refine r_get F hK hP 0 2 rfl inW_X7 wm_1094 rfl (by decide) rfl dX7_isTrue_108 ?_
      refine lv_iload_n hx hb dX7_isTrue_111 rfl (lv_at hl 1 rfl) ?_
      obtain ⟨hi112, h⟩ := o_ix h
      refine va_iald hx hb hK hP 2 0 rfl rfl hi112 dX7_isTrue_112 ?_
      refine lv_istore (lv' := [(4, .int (left_ y1.toNatClampNeg)), (0, .ref a0), (1, .int y1), (2, .long y2)]) hx hb dX7_isTrue_113 hl (by decide) rfl (fun ls hl => ?_)
      refine lv_iload hx hb dX7_isTrue_115 (lv_at hl 0 rfl) ?_
      refine lv_if_ne (tgt := 134) hx hb dX7_isTrue_117 (by decide) (fun c117 => ?_) (fun c117 => ?_)
      · have h := o_f c117 h
        refine lv_iload hx hb dX7_isTrue_134 (lv_at hl 0 rfl) ?_
        refine lv_iconst (v := 1) hx hb dX7_isTrue_136 (by decide) ?_
        refine lv_icmp_ne (tgt := 154) hx hb dX7_isTrue_137 (by decide) (fun c137 => ?_) (fun c137 => ?_)
        · have h := o_f c137 h
          refine lv_iload hx hb dX7_isTrue_154 (lv_at hl 0 rfl) ?_
          refine lv_iconst (v := 2) hx hb dX7_isTrue_156 (by decide) ?_
          refine lv_icmp_ne (tgt := 174) hx hb dX7_isTrue_157 (by decide) (fun c157 => ?_) (fun c157 => ?_)
          · have h := o_f c157 h
            refine lv_lload_n hx hb dX7_isTrue_174 rfl (lv_at hl 3 rfl) ?_
            refine lv_lconst (v := 0) hx hb dX7_isTrue_175 (by decide) ?_
            refine W.lcmp hx hb dX7_isTrue_176 ?_
            refine lv_if_gt (tgt := 184) hx hb dX7_isTrue_177 (by decide) (fun c177 => ?_) (fun c177 => ?_)
            · have h := o_t c177 h
              refine lv_iconst (v := 0) hx hb dX7_isTrue_184 (by decide) ?_
              exact w_X7_isTrue_185 CX hK hsz (ih_X7_isTrue := ih_X7_isTrue) 0 _ _ _ h hP hD hS (lv_sub hl [] rfl)
            · have h := o_f c177 h
              refine lv_iconst (v := 1) hx hb dX7_isTrue_180 (by decide) ?_
              refine lv_goto (tgt := 185) hx hb dX7_isTrue_181 (by decide) ?_
              exact w_X7_isTrue_185 CX hK hsz (ih_X7_isTrue := ih_X7_isTrue) 1 _ _ _ h hP hD hS (lv_sub hl [] rfl)
          · have h := o_t c157 h
            refine lv_lload_n hx hb dX7_isTrue_160 rfl (lv_at hl 3 rfl) ?_
            refine lv_lconst (v := 0) hx hb dX7_isTrue_161 (by decide) ?_
            refine W.lcmp hx hb dX7_isTrue_162 ?_
            refine lv_if_ge (tgt := 170) hx hb dX7_isTrue_163 (by decide) (fun c163 => ?_) (fun c163 => ?_)
            · have h := o_t c163 h
              refine lv_iconst (v := 0) hx hb dX7_isTrue_170 (by decide) ?_
              refine lv_goto (tgt := 185) hx hb dX7_isTrue_171 (by decide) ?_
              exact w_X7_isTrue_185 CX hK hsz (ih_X7_isTrue := ih_X7_isTrue) 0 _ _ _ h hP hD hS (lv_sub hl [] rfl)
            · have h := o_f c163 h
              refine lv_iconst (v := 1) hx hb dX7_isTrue_166 (by decide) ?_
              refine lv_goto (tgt := 185) hx hb dX7_isTrue_167 (by decide) ?_
              exact w_X7_isTrue_185 CX hK hsz (ih_X7_isTrue := ih_X7_isTrue) 1 _ _ _ h hP hD hS (lv_sub hl [] rfl)
        · have h := o_t c137 h
          refine lv_lload_n hx hb dX7_isTrue_140 rfl (lv_at hl 3 rfl) ?_
          refine lv_lconst (v := 0) hx hb dX7_isTrue_141 (by decide) ?_
          refine W.lcmp hx hb dX7_isTrue_142 ?_
          refine lv_if_eq (tgt := 150) hx hb dX7_isTrue_143 (by decide) (fun c143 => ?_) (fun c143 => ?_)
          · have h := o_t c143 h
            refine lv_iconst (v := 0) hx hb dX7_isTrue_150 (by decide) ?_
            refine lv_goto (tgt := 185) hx hb dX7_isTrue_151 (by decide) ?_
            exact w_X7_isTrue_185 CX hK hsz (ih_X7_isTrue := ih_X7_isTrue) 0 _ _ _ h hP hD hS (lv_sub hl [] rfl)
          · have h := o_f c143 h
            refine lv_iconst (v := 1) hx hb dX7_isTrue_146 (by decide) ?_
            refine lv_goto (tgt := 185) hx hb dX7_isTrue_147 (by decide) ?_
            exact w_X7_isTrue_185 CX hK hsz (ih_X7_isTrue := ih_X7_isTrue) 1 _ _ _ h hP hD hS (lv_sub hl [] rfl)
      · have h := o_t c117 h
        refine lv_lload_n hx hb dX7_isTrue_120 rfl (lv_at hl 3 rfl) ?_
        refine lv_lconst (v := 0) hx hb dX7_isTrue_121 (by decide) ?_
        refine W.lcmp hx hb dX7_isTrue_122 ?_
        refine lv_if_ne (tgt := 130) hx hb dX7_isTrue_123 (by decide) (fun c123 => ?_) (fun c123 => ?_)
        · have h := o_f c123 h
          refine lv_iconst (v := 0) hx hb dX7_isTrue_130 (by decide) ?_
          refine lv_goto (tgt := 185) hx hb dX7_isTrue_131 (by decide) ?_
          exact w_X7_isTrue_185 CX hK hsz (ih_X7_isTrue := ih_X7_isTrue) 0 _ _ _ h hP hD hS (lv_sub hl [] rfl)
        · have h := o_t c123 h
          refine lv_iconst (v := 1) hx hb dX7_isTrue_126 (by decide) ?_
          refine lv_goto (tgt := 185) hx hb dX7_isTrue_127 (by decide) ?_
          exact w_X7_isTrue_185 CX hK hsz (ih_X7_isTrue := ih_X7_isTrue) 1 _ _ _ h hP hD hS (lv_sub hl [] rfl)
    · have h := o_f c60 h
      refine lv_lload_n hx hb dX7_isTrue_63 rfl (lv_at hl 2 rfl) ?_
      refine lv_aload_n hx hb dX7_isTrue_64 rfl (lv_at hl 0 rfl) ?_
      refine r_get F hK hP 0 6 rfl inW_X7 wm_1098 rfl (by decide) rfl dX7_isTrue_65 ?_
      refine lv_bipush (v := 9) hx hb dX7_isTrue_68 (by decide) ?_
      refine lv_iload_n hx hb dX7_isTrue_70 rfl (lv_at hl 1 rfl) ?_
      refine lv_imul hx hb dX7_isTrue_71 ?_
      refine lv_iload hx hb dX7_isTrue_72 (lv_at hl 3 rfl) ?_
      refine lv_iadd hx hb dX7_isTrue_74 ?_
      obtain ⟨hi75, h⟩ := o_ix h
      refine va_iald hx hb hK hP 4 0 rfl rfl hi75 dX7_isTrue_75 ?_
      refine lv_i2l hx hb dX7_isTrue_76 rfl ?_
      refine lv_aload_n hx hb dX7_isTrue_77 rfl (lv_at hl 0 rfl) ?_
      refine r_get F hK hP 0 16 rfl inW_X7 wm_1108 rfl (by decide) rfl dX7_isTrue_78 ?_
      refine lv_iload hx hb dX7_isTrue_81 (lv_at hl 3 rfl) ?_
      obtain ⟨hi83, h⟩ := o_ix h
      refine va_iald hx hb hK hP 5 0 rfl rfl hi83 dX7_isTrue_83 ?_
      refine lv_i2l hx hb dX7_isTrue_84 rfl ?_
      refine lv_lmul hx hb dX7_isTrue_85 ?_
      refine lv_ldc2 (v := 2520) hx hb hown (F.2.2.2.2 _ (q_in wm_1342)) dX7_isTrue_86 ?_
      refine lv_aload_n hx hb dX7_isTrue_89 rfl (lv_at hl 0 rfl) ?_
      refine r_get F hK hP 0 17 rfl inW_X7 wm_1109 rfl (by decide) rfl dX7_isTrue_90 ?_
      refine lv_iload hx hb dX7_isTrue_93 (lv_at hl 3 rfl) ?_
      obtain ⟨hi95, h⟩ := o_ix h
      refine va_iald hx hb hK hP 6 0 rfl rfl hi95 dX7_isTrue_95 ?_
      refine lv_i2l hx hb dX7_isTrue_96 rfl ?_
      obtain ⟨hc97, h⟩ := o_c h
      refine lv_ldiv hx hb dX7_isTrue_97 hc97 ?_
      refine lv_lmul hx hb dX7_isTrue_98 ?_
      refine lv_ladd hx hb dX7_isTrue_99 ?_
      refine lv_lstore_n (lv' := [(2, .long (y2 + ((((rows ((9 * y1) + y4).toNatClampNeg).toInt64) * ((above y4.toNatClampNeg).toInt64)) * (2520 / ((below_ y4.toNatClampNeg).toInt64))))), (0, .ref a0), (1, .int y1), (4, .int y4)]) hx hb dX7_isTrue_100 rfl hl (by decide) rfl (fun ls hl => ?_)
      refine lv_iinc (v := y4 + 1) (lv' := [(4, .int (y4 + 1)), (2, .long (y2 + ((((rows ((9 * y1) + y4).toNatClampNeg).toInt64) * ((above y4.toNatClampNeg).toInt64)) * (2520 / ((below_ y4.toNatClampNeg).toInt64))))), (0, .ref a0), (1, .int y1)]) hx hb dX7_isTrue_101 hl (k := 3) rfl rfl (by decide) rfl (fun ls hl => ?_)
      refine lv_goto (tgt := 56) hx hb dX7_isTrue_104 (by decide) ?_
      exact ih y1 (y2 + ((((rows ((9 * y1) + y4).toNatClampNeg).toInt64) * ((above y4.toNatClampNeg).toInt64)) * (2520 / ((below_ y4.toNatClampNeg).toInt64)))) (y4 + 1) _ _ _ h hP hD hS (lv_sub hl [2, 3, 1, 0] rfl)
set_option maxHeartbeats 4000000 in
set_option maxRecDepth 100000 in
theorem w_X7_isTrue_247 (CX : Cx p m c cX7_isTrue 5 s args x0 RX7 meth (some .boolean)) (hK : va_K D vwCl (ty0 cI cJ cB) s) (hsz : s.heap.size = sz) (ih_X7_isTrue : CP_X7_isTrue l D cI cJ cB (rmg_isTrue d) R_X7_isTrue) : ∀ (s0 : Int32) (H : Heap) (locs : List Loc) (ls : Array Slot), f_X7_isTrue_247 R_X7_isTrue N kind left_ right_ rows above below_ s0 = some z → va_P D vwCl (ws_X7_isTrue cI cJ cB a0 a_many a_bits a_table a_roots a_moved a_text a_out a_row a_sum a_point a_pointRows a_pointSorts a_kind a_left a_right a_rows a_above a_below thrown used rooted size outSize points takenOut great at_ fault open_ wrong by_ sort variable_ pointCount kind left_ right_ rows above below_) H → va_D (va_A ws0 sz) (ws_X7_isTrue cI cJ cB a0 a_many a_bits a_table a_roots a_moved a_text a_out a_row a_sum a_point a_pointRows a_pointSorts a_kind a_left a_right a_rows a_above a_below thrown used rooted size outSize points takenOut great at_ fault open_ wrong by_ sort variable_ pointCount kind left_ right_ rows above below_) → va_S (va_A ws0 sz) s.heap H locs → lv_has ls 5 [] → W p l e (rmg_isTrue (d + 1)) s m args below meth c H locs 0 0 (MQ below (gQ D sz ws0 (ws_X7_isTrue cI cJ cB a0 a_many a_bits a_table a_roots a_moved a_text a_out a_row a_sum a_point a_pointRows a_pointSorts a_kind a_left a_right a_rows a_above a_below thrown used rooted size outSize points takenOut great at_ fault open_ wrong by_ sort variable_ pointCount kind left_ right_ rows above below_) (some (.int z))) args s 0 0 (va_A ws0 sz)) (F0 m 247 ls [.int s0]) := by
  obtain ⟨F, hr, hlk, hNw⟩ := id CX
  have hx := F.1
  have hb := F.2.1
  have hown := F.2.2.2.1
  have hA : ∀ q, s.heap.size ≤ q → va_A ws0 sz q := fun q hq => Or.inr (hsz ▸ hq)
  intro s0 H locs ls h hP hD hS hl
  unfold f_X7_isTrue_247 at h
  obtain ⟨hc247, h⟩ := o_c h
  obtain rfl := Option.some.inj h
  exact r_ret (v := s0) F hr hlk (nb01 hc247) dX7_isTrue_247 hsz hP hD hS
set_option maxHeartbeats 4000000 in
set_option maxRecDepth 100000 in
theorem w_X7_isTrue_230 (CX : Cx p m c cX7_isTrue 5 s args x0 RX7 meth (some .boolean)) (hK : va_K D vwCl (ty0 cI cJ cB) s) (hsz : s.heap.size = sz) (ih_X7_isTrue : CP_X7_isTrue l D cI cJ cB (rmg_isTrue d) R_X7_isTrue) : ∀ (H : Heap) (locs : List Loc) (ls : Array Slot), f_X7_isTrue_230 R_X7_isTrue N kind left_ right_ rows above below_ = some z → va_P D vwCl (ws_X7_isTrue cI cJ cB a0 a_many a_bits a_table a_roots a_moved a_text a_out a_row a_sum a_point a_pointRows a_pointSorts a_kind a_left a_right a_rows a_above a_below thrown used rooted size outSize points takenOut great at_ fault open_ wrong by_ sort variable_ pointCount kind left_ right_ rows above below_) H → va_D (va_A ws0 sz) (ws_X7_isTrue cI cJ cB a0 a_many a_bits a_table a_roots a_moved a_text a_out a_row a_sum a_point a_pointRows a_pointSorts a_kind a_left a_right a_rows a_above a_below thrown used rooted size outSize points takenOut great at_ fault open_ wrong by_ sort variable_ pointCount kind left_ right_ rows above below_) → va_S (va_A ws0 sz) s.heap H locs → lv_has ls 5 [] → W p l e (rmg_isTrue (d + 1)) s m args below meth c H locs 0 0 (MQ below (gQ D sz ws0 (ws_X7_isTrue cI cJ cB a0 a_many a_bits a_table a_roots a_moved a_text a_out a_row a_sum a_point a_pointRows a_pointSorts a_kind a_left a_right a_rows a_above a_below thrown used rooted size outSize points takenOut great at_ fault open_ wrong by_ sort variable_ pointCount kind left_ right_ rows above below_) (some (.int z))) args s 0 0 (va_A ws0 sz)) (F0 m 230 ls []) := by
  obtain ⟨F, hr, hlk, hNw⟩ := id CX
  have hx := F.1
  have hb := F.2.1
  have hown := F.2.2.2.1
  have hA : ∀ q, s.heap.size ≤ q → va_A ws0 sz q := fun q hq => Or.inr (hsz ▸ hq)
  intro  H locs ls h hP hD hS hl
  unfold f_X7_isTrue_230 at h
  refine lv_iconst (v := 0) hx hb dX7_isTrue_230 (by decide) ?_
  refine lv_goto (tgt := 247) hx hb dX7_isTrue_231 (by decide) ?_
  exact w_X7_isTrue_247 CX hK hsz (ih_X7_isTrue := ih_X7_isTrue) 0 _ _ _ h hP hD hS (lv_sub hl [] rfl)
set_option maxHeartbeats 4000000 in
set_option maxRecDepth 100000 in
theorem w_X7_isTrue_242 (CX : Cx p m c cX7_isTrue 5 s args x0 RX7 meth (some .boolean)) (hK : va_K D vwCl (ty0 cI cJ cB) s) (hsz : s.heap.size = sz) (ih_X7_isTrue : CP_X7_isTrue l D cI cJ cB (rmg_isTrue d) R_X7_isTrue) : ∀ (H : Heap) (locs : List Loc) (ls : Array Slot), f_X7_isTrue_242 R_X7_isTrue N kind left_ right_ rows above below_ = some z → va_P D vwCl (ws_X7_isTrue cI cJ cB a0 a_many a_bits a_table a_roots a_moved a_text a_out a_row a_sum a_point a_pointRows a_pointSorts a_kind a_left a_right a_rows a_above a_below thrown used rooted size outSize points takenOut great at_ fault open_ wrong by_ sort variable_ pointCount kind left_ right_ rows above below_) H → va_D (va_A ws0 sz) (ws_X7_isTrue cI cJ cB a0 a_many a_bits a_table a_roots a_moved a_text a_out a_row a_sum a_point a_pointRows a_pointSorts a_kind a_left a_right a_rows a_above a_below thrown used rooted size outSize points takenOut great at_ fault open_ wrong by_ sort variable_ pointCount kind left_ right_ rows above below_) → va_S (va_A ws0 sz) s.heap H locs → lv_has ls 5 [] → W p l e (rmg_isTrue (d + 1)) s m args below meth c H locs 0 0 (MQ below (gQ D sz ws0 (ws_X7_isTrue cI cJ cB a0 a_many a_bits a_table a_roots a_moved a_text a_out a_row a_sum a_point a_pointRows a_pointSorts a_kind a_left a_right a_rows a_above a_below thrown used rooted size outSize points takenOut great at_ fault open_ wrong by_ sort variable_ pointCount kind left_ right_ rows above below_) (some (.int z))) args s 0 0 (va_A ws0 sz)) (F0 m 242 ls []) := by
  obtain ⟨F, hr, hlk, hNw⟩ := id CX
  have hx := F.1
  have hb := F.2.1
  have hown := F.2.2.2.1
  have hA : ∀ q, s.heap.size ≤ q → va_A ws0 sz q := fun q hq => Or.inr (hsz ▸ hq)
  intro  H locs ls h hP hD hS hl
  unfold f_X7_isTrue_242 at h
  refine lv_iconst (v := 1) hx hb dX7_isTrue_242 (by decide) ?_
  refine lv_goto (tgt := 247) hx hb dX7_isTrue_243 (by decide) ?_
  exact w_X7_isTrue_247 CX hK hsz (ih_X7_isTrue := ih_X7_isTrue) 1 _ _ _ h hP hD hS (lv_sub hl [] rfl)
end G_X7_isTrue
set_option maxHeartbeats 4000000 in
set_option maxRecDepth 100000 in
theorem cF_X7_isTrue (l : Launch) (D : va_G) (cI cJ cB : ClassId) (N d : Nat) {R_X7_isTrue : (Nat → Int32) → (Nat → Int32) → (Nat → Int32) → (Nat → Int32) → (Nat → Int32) → (Nat → Int32) → Int32 → Option (Int32)} (ih_X7_isTrue : CP_X7_isTrue l D cI cJ cB (rmg_isTrue d) R_X7_isTrue) : CP_X7_isTrue l D cI cJ cB (rmg_isTrue (d + 1)) (F_X7_isTrue R_X7_isTrue N) := by
  intro a0 a_many a_bits a_table a_roots a_moved a_text a_out a_row a_sum a_point a_pointRows a_pointSorts a_kind a_left a_right a_rows a_above a_below sz thrown used rooted size outSize points takenOut great at_ fault open_ wrong by_ sort variable_ pointCount kind left_ right_ rows above below_ x1 z h
  refine Mg.of (by decide) (Nat.le_of_ble_eq_true rfl) ?_
  intro p e s m below meth c CX hK hsz hP hD ls hl
  have CX : Cx p m c cX7_isTrue 5 s ([.ref a0, .int x1] : List Value).toArray (Cond.code yX7_isTrue cX7_isTrue 5 (some .boolean)) RX7 meth (some .boolean) := CX
  obtain ⟨F, hr, hlk, hNw⟩ := id CX
  have hx := F.1
  have hb := F.2.1
  have hown := F.2.2.2.1
  have hl : lv_has ls 5 [(0, .ref a0), (1, .int x1)] := hl
  have hS : va_S (va_A (ws_X7_isTrue cI cJ cB a0 a_many a_bits a_table a_roots a_moved a_text a_out a_row a_sum a_point a_pointRows a_pointSorts a_kind a_left a_right a_rows a_above a_below thrown used rooted size outSize points takenOut great at_ fault open_ wrong by_ sort variable_ pointCount kind left_ right_ rows above below_) sz) s.heap s.heap [] := va_S.rf
  have hA : ∀ q, s.heap.size ≤ q → va_A (ws_X7_isTrue cI cJ cB a0 a_many a_bits a_table a_roots a_moved a_text a_out a_row a_sum a_point a_pointRows a_pointSorts a_kind a_left a_right a_rows a_above a_below thrown used rooted size outSize points takenOut great at_ fault open_ wrong by_ sort variable_ pointCount kind left_ right_ rows above below_) sz q := fun q hq => Or.inr (hsz ▸ hq)
  unfold F_X7_isTrue at h
  refine lv_aload_n hx hb dX7_isTrue_0 rfl (lv_at hl 0 rfl) ?_
  refine r_get F hK hP 0 1 rfl inW_X7 wm_1093 rfl (by decide) rfl dX7_isTrue_1 ?_
  refine lv_iload_n hx hb dX7_isTrue_4 rfl (lv_at hl 1 rfl) ?_
  obtain ⟨hi5, h⟩ := o_ix h
  refine va_iald hx hb hK hP 1 0 rfl rfl hi5 dX7_isTrue_5 ?_
  refine lv_iconst (v := 2) hx hb dX7_isTrue_6 (by decide) ?_
  refine lv_icmp_ge (tgt := 25) hx hb dX7_isTrue_7 (by decide) (fun c7 => ?_) (fun c7 => ?_)
  · have h := o_t c7 h
    refine lv_aload_n hx hb dX7_isTrue_25 rfl (lv_at hl 0 rfl) ?_
    refine r_get F hK hP 0 1 rfl inW_X7 wm_1093 rfl (by decide) rfl dX7_isTrue_26 ?_
    refine lv_iload_n hx hb dX7_isTrue_29 rfl (lv_at hl 1 rfl) ?_
    obtain ⟨hi30, h⟩ := o_ix h
    refine va_iald hx hb hK hP 1 0 rfl rfl hi30 dX7_isTrue_30 ?_
    refine lv_iconst (v := 2) hx hb dX7_isTrue_31 (by decide) ?_
    refine lv_icmp_ne (tgt := 186) hx hb dX7_isTrue_32 (by decide) (fun c32 => ?_) (fun c32 => ?_)
    · have h := o_f c32 h
      refine lv_aload_n hx hb dX7_isTrue_186 rfl (lv_at hl 0 rfl) ?_
      refine lv_aload_n hx hb dX7_isTrue_187 rfl (lv_at hl 0 rfl) ?_
      refine r_get F hK hP 0 2 rfl inW_X7 wm_1094 rfl (by decide) rfl dX7_isTrue_188 ?_
      refine lv_iload_n hx hb dX7_isTrue_191 rfl (lv_at hl 1 rfl) ?_
      obtain ⟨hi192, h⟩ := o_ix h
      refine va_iald hx hb hK hP 2 0 rfl rfl hi192 dX7_isTrue_192 ?_
      obtain ⟨z193, hz193, h⟩ := o_b h
      refine k_v (wn := (ws_X7_isTrue cI cJ cB a0 a_many a_bits a_table a_roots a_moved a_text a_out a_row a_sum a_point a_pointRows a_pointSorts a_kind a_left a_right a_rows a_above a_below thrown used rooted size outSize points takenOut great at_ fault open_ wrong by_ sort variable_ pointCount kind left_ right_ rows above below_)) (As := [.int (left_ x1.toNatClampNeg)]) (rest := []) F hNw hK hP hD hS hA (ih_X7_isTrue a0 a_many a_bits a_table a_roots a_moved a_text a_out a_row a_sum a_point a_pointRows a_pointSorts a_kind a_left a_right a_rows a_above a_below _ thrown used rooted size outSize points takenOut great at_ fault open_ wrong by_ sort variable_ pointCount kind left_ right_ rows above below_ (left_ x1.toNatClampNeg) hz193) wm_1338 cv_X7_isTrue [0, 1, 2, 3, 4, 5, 6] [] [0, 1, 2, 3, 4, 5, 6] (⟨rfl, rfl, rfl, by decide, rfl⟩ : Ix [0, 1, 2, 3, 4, 5, 6] [] [0, 1, 2, 3, 4, 5, 6] 7) rfl (hN_of 0 7 (by decide +kernel) rfl (by decide +kernel) rfl) rfl rfl rfl rfl ⟨rfl, rfl, by show 0 + d + 1 ≤ 0 + (d + 1); omega, by show 8 + (5 + 11) + (0 + 24 * d) ≤ 0 + 24 * (d + 1); omega⟩ hl.1 rfl (Nat.le_of_ble_eq_true rfl) ⟨Nat.zero_le _, Nat.zero_le _⟩ dX7_isTrue_193 (fun H locs hP hD hS => ?_)
      refine lv_istore_n (lv' := [(2, .int z193), (0, .ref a0), (1, .int x1)]) hx hb dX7_isTrue_196 rfl hl (by decide) rfl (fun ls hl => ?_)
      refine lv_aload_n hx hb dX7_isTrue_197 rfl (lv_at hl 1 rfl) ?_
      refine lv_aload_n hx hb dX7_isTrue_198 rfl (lv_at hl 1 rfl) ?_
      refine r_get F hK hP 0 3 rfl inW_X7 wm_1095 rfl (by decide) rfl dX7_isTrue_199 ?_
      refine lv_iload_n hx hb dX7_isTrue_202 rfl (lv_at hl 2 rfl) ?_
      obtain ⟨hi203, h⟩ := o_ix h
      refine va_iald hx hb hK hP 3 0 rfl rfl hi203 dX7_isTrue_203 ?_
      obtain ⟨z204, hz204, h⟩ := o_b h
      refine k_v (wn := (ws_X7_isTrue cI cJ cB a0 a_many a_bits a_table a_roots a_moved a_text a_out a_row a_sum a_point a_pointRows a_pointSorts a_kind a_left a_right a_rows a_above a_below thrown used rooted size outSize points takenOut great at_ fault open_ wrong by_ sort variable_ pointCount kind left_ right_ rows above below_)) (As := [.int (right_ x1.toNatClampNeg)]) (rest := []) F hNw hK hP hD hS hA (ih_X7_isTrue a0 a_many a_bits a_table a_roots a_moved a_text a_out a_row a_sum a_point a_pointRows a_pointSorts a_kind a_left a_right a_rows a_above a_below _ thrown used rooted size outSize points takenOut great at_ fault open_ wrong by_ sort variable_ pointCount kind left_ right_ rows above below_ (right_ x1.toNatClampNeg) hz204) wm_1338 cv_X7_isTrue [0, 1, 2, 3, 4, 5, 6] [] [0, 1, 2, 3, 4, 5, 6] (⟨rfl, rfl, rfl, by decide, rfl⟩ : Ix [0, 1, 2, 3, 4, 5, 6] [] [0, 1, 2, 3, 4, 5, 6] 7) rfl (hN_of 0 7 (by decide +kernel) rfl (by decide +kernel) rfl) rfl rfl rfl rfl ⟨rfl, rfl, by show 0 + d + 1 ≤ 0 + (d + 1); omega, by show 8 + (5 + 11) + (0 + 24 * d) ≤ 0 + 24 * (d + 1); omega⟩ hl.1 rfl (Nat.le_of_ble_eq_true rfl) ⟨Nat.zero_le _, Nat.zero_le _⟩ dX7_isTrue_204 (fun H locs hP hD hS => ?_)
      refine lv_istore_n (lv' := [(3, .int z204), (2, .int z193), (0, .ref a0), (1, .int x1)]) hx hb dX7_isTrue_207 rfl hl (by decide) rfl (fun ls hl => ?_)
      refine lv_aload_n hx hb dX7_isTrue_208 rfl (lv_at hl 2 rfl) ?_
      refine r_get F hK hP 0 1 rfl inW_X7 wm_1093 rfl (by decide) rfl dX7_isTrue_209 ?_
      refine lv_iload_n hx hb dX7_isTrue_212 rfl (lv_at hl 3 rfl) ?_
      obtain ⟨hi213, h⟩ := o_ix h
      refine va_iald hx hb hK hP 1 0 rfl rfl hi213 dX7_isTrue_213 ?_
      refine lv_iconst (v := 3) hx hb dX7_isTrue_214 (by decide) ?_
      refine lv_icmp_ne (tgt := 234) hx hb dX7_isTrue_215 (by decide) (fun c215 => ?_) (fun c215 => ?_)
      · have h := o_f c215 h
        refine lv_iload_n hx hb dX7_isTrue_234 rfl (lv_at hl 1 rfl) ?_
        refine lv_if_ne (tgt := 242) hx hb dX7_isTrue_235 (by decide) (fun c235 => ?_) (fun c235 => ?_)
        · have h := o_f c235 h
          exact w_X7_isTrue_242 CX hK hsz (ih_X7_isTrue := ih_X7_isTrue)  _ _ _ h hP hD hS (lv_sub hl [] rfl)
        · have h := o_t c235 h
          refine lv_iload_n hx hb dX7_isTrue_238 rfl (lv_at hl 0 rfl) ?_
          refine lv_if_eq (tgt := 246) hx hb dX7_isTrue_239 (by decide) (fun c239 => ?_) (fun c239 => ?_)
          · have h := o_t c239 h
            refine lv_iconst (v := 0) hx hb dX7_isTrue_246 (by decide) ?_
            exact w_X7_isTrue_247 CX hK hsz (ih_X7_isTrue := ih_X7_isTrue) 0 _ _ _ h hP hD hS (lv_sub hl [] rfl)
          · have h := o_f c239 h
            exact w_X7_isTrue_242 CX hK hsz (ih_X7_isTrue := ih_X7_isTrue)  _ _ _ h hP hD hS (lv_sub hl [] rfl)
      · have h := o_t c215 h
        refine lv_iload_n hx hb dX7_isTrue_218 rfl (lv_at hl 1 rfl) ?_
        refine lv_if_eq (tgt := 230) hx hb dX7_isTrue_219 (by decide) (fun c219 => ?_) (fun c219 => ?_)
        · have h := o_t c219 h
          exact w_X7_isTrue_230 CX hK hsz (ih_X7_isTrue := ih_X7_isTrue)  _ _ _ h hP hD hS (lv_sub hl [] rfl)
        · have h := o_f c219 h
          refine lv_iload_n hx hb dX7_isTrue_222 rfl (lv_at hl 0 rfl) ?_
          refine lv_if_eq (tgt := 230) hx hb dX7_isTrue_223 (by decide) (fun c223 => ?_) (fun c223 => ?_)
          · have h := o_t c223 h
            exact w_X7_isTrue_230 CX hK hsz (ih_X7_isTrue := ih_X7_isTrue)  _ _ _ h hP hD hS (lv_sub hl [] rfl)
          · have h := o_f c223 h
            refine lv_iconst (v := 1) hx hb dX7_isTrue_226 (by decide) ?_
            refine lv_goto (tgt := 247) hx hb dX7_isTrue_227 (by decide) ?_
            exact w_X7_isTrue_247 CX hK hsz (ih_X7_isTrue := ih_X7_isTrue) 1 _ _ _ h hP hD hS (lv_sub hl [] rfl)
    · have h := o_t c32 h
      refine lv_ldc2 (v := 2520) hx hb hown (F.2.2.2.2 _ (q_in wm_1342)) dX7_isTrue_35 ?_
      refine lv_aload_n hx hb dX7_isTrue_38 rfl (lv_at hl 0 rfl) ?_
      refine r_get F hK hP 0 6 rfl inW_X7 wm_1098 rfl (by decide) rfl dX7_isTrue_39 ?_
      refine lv_bipush (v := 9) hx hb dX7_isTrue_42 (by decide) ?_
      refine lv_iload_n hx hb dX7_isTrue_44 rfl (lv_at hl 1 rfl) ?_
      refine lv_imul hx hb dX7_isTrue_45 ?_
      refine lv_bipush (v := 8) hx hb dX7_isTrue_46 (by decide) ?_
      refine lv_iadd hx hb dX7_isTrue_48 ?_
      obtain ⟨hi49, h⟩ := o_ix h
      refine va_iald hx hb hK hP 4 0 rfl rfl hi49 dX7_isTrue_49 ?_
      refine lv_i2l hx hb dX7_isTrue_50 rfl ?_
      refine lv_lmul hx hb dX7_isTrue_51 ?_
      refine lv_lstore_n (lv' := [(2, .long (2520 * ((rows ((9 * x1) + 8).toNatClampNeg).toInt64))), (0, .ref a0), (1, .int x1)]) hx hb dX7_isTrue_52 rfl hl (by decide) rfl (fun ls hl => ?_)
      refine lv_iconst (v := 0) hx hb dX7_isTrue_53 (by decide) ?_
      refine lv_istore (lv' := [(4, .int 0), (2, .long (2520 * ((rows ((9 * x1) + 8).toNatClampNeg).toInt64))), (0, .ref a0), (1, .int x1)]) hx hb dX7_isTrue_54 hl (by decide) rfl (fun ls hl => ?_)
      exact w_X7_isTrue_56 CX hK hsz (ih_X7_isTrue := ih_X7_isTrue) N x1 (2520 * ((rows ((9 * x1) + 8).toNatClampNeg).toInt64)) 0 _ _ _ h hP hD hS (lv_sub hl [2, 3, 1, 0] rfl)
  · have h := o_f c7 h
    refine lv_aload_n hx hb dX7_isTrue_10 rfl (lv_at hl 0 rfl) ?_
    refine r_get F hK hP 0 1 rfl inW_X7 wm_1093 rfl (by decide) rfl dX7_isTrue_11 ?_
    refine lv_iload_n hx hb dX7_isTrue_14 rfl (lv_at hl 1 rfl) ?_
    obtain ⟨hi15, h⟩ := o_ix h
    refine va_iald hx hb hK hP 1 0 rfl rfl hi15 dX7_isTrue_15 ?_
    refine lv_if_ne (tgt := 23) hx hb dX7_isTrue_16 (by decide) (fun c16 => ?_) (fun c16 => ?_)
    · have h := o_f c16 h
      refine lv_iconst (v := 0) hx hb dX7_isTrue_23 (by decide) ?_
      exact w_X7_isTrue_24 CX hK hsz (ih_X7_isTrue := ih_X7_isTrue) 0 _ _ _ h hP hD hS (lv_sub hl [] rfl)
    · have h := o_t c16 h
      refine lv_iconst (v := 1) hx hb dX7_isTrue_19 (by decide) ?_
      refine lv_goto (tgt := 24) hx hb dX7_isTrue_20 (by decide) ?_
      exact w_X7_isTrue_24 CX hK hsz (ih_X7_isTrue := ih_X7_isTrue) 1 _ _ _ h hP hD hS (lv_sub hl [] rfl)
def fg_isTrue (N : Nat) : Nat → ((Nat → Int32) → (Nat → Int32) → (Nat → Int32) → (Nat → Int32) → (Nat → Int32) → (Nat → Int32) → Int32 → Option (Int32))
  | 0 => fun _ _ _ _ _ _ _ => none
  | d + 1 => F_X7_isTrue (fg_isTrue N d) N
theorem cg_isTrue (l : Launch) (D : va_G) (cI cJ cB : ClassId) (N : Nat) : ∀ d : Nat, CP_X7_isTrue l D cI cJ cB (rmg_isTrue d) (fg_isTrue N d) := by
  intro d
  induction d with
  | zero =>
    exact (by intro a0 a_many a_bits a_table a_roots a_moved a_text a_out a_row a_sum a_point a_pointRows a_pointSorts a_kind a_left a_right a_rows a_above a_below sz thrown used rooted size outSize points takenOut great at_ fault open_ wrong by_ sort variable_ pointCount kind left_ right_ rows above below_ x1 z h; cases h)
  | succ d ih =>
    exact cF_X7_isTrue l D cI cJ cB N d ih
def f_X7_isTrue (N : Nat) (kind : Nat → Int32) (left_ : Nat → Int32) (right_ : Nat → Int32) (rows : Nat → Int32) (above : Nat → Int32) (below_ : Nat → Int32) (x1 : Int32) : Option (Int32) := (fg_isTrue N 450) kind left_ right_ rows above below_ x1
abbrev rm_X7_isTrue : Room := { frames := 450, cells := 0, slots := 0, locals := 10800 }
theorem c_X7_isTrue (l : Launch) (D : va_G) (cI cJ cB : ClassId) (a0 a_many a_bits a_table a_roots a_moved a_text a_out a_row a_sum a_point a_pointRows a_pointSorts a_kind a_left a_right a_rows a_above a_below : Nat) (sz : Nat) (thrown : Int32) (used : Int32) (rooted : Int32) (size : Int32) (outSize : Int32) (points : Int32) (takenOut : Int32) (great : Int32) (at_ : Int32) (fault : Int32) (open_ : Int32) (wrong : Int32) (by_ : Int64) (sort : Int32) (variable_ : Int32) (pointCount : Int32) (kind : Nat → Int32) (left_ : Nat → Int32) (right_ : Nat → Int32) (rows : Nat → Int32) (above : Nat → Int32) (below_ : Nat → Int32) (x1 : Int32) (N : Nat) {z : Int32} (h : f_X7_isTrue N kind left_ right_ rows above below_ x1 = some z) : Mg l yX7_isTrue cX7_isTrue 5 (some .boolean) rm_X7_isTrue D (ty0 cI cJ cB) [.ref a0, .int x1] sz (ws_X7_isTrue cI cJ cB a0 a_many a_bits a_table a_roots a_moved a_text a_out a_row a_sum a_point a_pointRows a_pointSorts a_kind a_left a_right a_rows a_above a_below thrown used rooted size outSize points takenOut great at_ fault open_ wrong by_ sort variable_ pointCount kind left_ right_ rows above below_) (some (.int z)) (ws_X7_isTrue cI cJ cB a0 a_many a_bits a_table a_roots a_moved a_text a_out a_row a_sum a_point a_pointRows a_pointSorts a_kind a_left a_right a_rows a_above a_below thrown used rooted size outSize points takenOut great at_ fault open_ wrong by_ sort variable_ pointCount kind left_ right_ rows above below_) :=
  (cg_isTrue l D cI cJ cB N 450) a0 a_many a_bits a_table a_roots a_moved a_text a_out a_row a_sum a_point a_pointRows a_pointSorts a_kind a_left a_right a_rows a_above a_below sz thrown used rooted size outSize points takenOut great at_ fault open_ wrong by_ sort variable_ pointCount kind left_ right_ rows above below_ x1 h
abbrev rmg_count (d : Nat) : Room := { frames := 0 + d, cells := 0, slots := 0, locals := 0 + 24 * d }
abbrev ws_X7_count (cI cJ cB : ClassId) (a0 a_many a_bits a_rows a_table a_roots a_moved a_text a_out a_above a_below a_row a_sum a_point a_pointRows a_pointSorts a_kind a_left a_right : Nat) (thrown : Int32) (used : Int32) (rooted : Int32) (size : Int32) (outSize : Int32) (points : Int32) (takenOut : Int32) (great : Int32) (at_ : Int32) (fault : Int32) (open_ : Int32) (wrong : Int32) (by_ : Int64) (sort : Int32) (variable_ : Int32) (pointCount : Int32) (kind : Nat → Int32) (left_ : Nat → Int32) (right_ : Nat → Int32) : va_W := [(a0, .inr (9, [.int thrown, .ref a_kind, .ref a_left, .ref a_right, .ref a_many, .ref a_bits, .ref a_rows, .ref a_table, .int used, .ref a_roots, .int rooted, .ref a_moved, .ref a_text, .int size, .ref a_out, .int outSize, .ref a_above, .ref a_below, .int points, .int takenOut, .int great, .ref a_row, .int at_, .int fault, .int open_, .int wrong, .ref a_sum, .ref a_point, .long by_, .int sort, .int variable_, .ref a_pointRows, .ref a_pointSorts, .int pointCount])), (a_kind, .inl (cI, 24000, .inl kind)), (a_left, .inl (cI, 24000, .inl left_)), (a_right, .inl (cI, 24000, .inl right_))]
def CP_X7_count (l : Launch) (D : va_G) (cI cJ cB : ClassId) (rm : Room) (f : (Nat → Int32) → (Nat → Int32) → (Nat → Int32) → Int32 → Int32 → Option (Int32)) : Prop := ∀ (a0 a_many a_bits a_rows a_table a_roots a_moved a_text a_out a_above a_below a_row a_sum a_point a_pointRows a_pointSorts a_kind a_left a_right : Nat) (sz : Nat) (thrown : Int32) (used : Int32) (rooted : Int32) (size : Int32) (outSize : Int32) (points : Int32) (takenOut : Int32) (great : Int32) (at_ : Int32) (fault : Int32) (open_ : Int32) (wrong : Int32) (by_ : Int64) (sort : Int32) (variable_ : Int32) (pointCount : Int32) (kind : Nat → Int32) (left_ : Nat → Int32) (right_ : Nat → Int32) (x1 : Int32) (x2 : Int32) {z : Int32}, f kind left_ right_ x1 x2 = some z → Mg l yX7_count cX7_count 5 (some .int) rm D (ty0 cI cJ cB) [.ref a0, .int x1, .int x2] sz (ws_X7_count cI cJ cB a0 a_many a_bits a_rows a_table a_roots a_moved a_text a_out a_above a_below a_row a_sum a_point a_pointRows a_pointSorts a_kind a_left a_right thrown used rooted size outSize points takenOut great at_ fault open_ wrong by_ sort variable_ pointCount kind left_ right_) (some (.int z)) (ws_X7_count cI cJ cB a0 a_many a_bits a_rows a_table a_roots a_moved a_text a_out a_above a_below a_row a_sum a_point a_pointRows a_pointSorts a_kind a_left a_right thrown used rooted size outSize points takenOut great at_ fault open_ wrong by_ sort variable_ pointCount kind left_ right_)
section G_X7_count
def f_X7_count_35 (R_X7_count : (Nat → Int32) → (Nat → Int32) → (Nat → Int32) → Int32 → Int32 → Option (Int32)) (N : Nat) (kind : Nat → Int32) (left_ : Nat → Int32) (right_ : Nat → Int32) (s0 : Int32) : Option (Int32) := some s0
def f_X7_count_30 (R_X7_count : (Nat → Int32) → (Nat → Int32) → (Nat → Int32) → Int32 → Int32 → Option (Int32)) (N : Nat) (kind : Nat → Int32) (left_ : Nat → Int32) (right_ : Nat → Int32) : Option (Int32) := f_X7_count_35 R_X7_count N kind left_ right_ 1
def f_X7_count_34 (R_X7_count : (Nat → Int32) → (Nat → Int32) → (Nat → Int32) → Int32 → Int32 → Option (Int32)) (N : Nat) (kind : Nat → Int32) (left_ : Nat → Int32) (right_ : Nat → Int32) : Option (Int32) := f_X7_count_35 R_X7_count N kind left_ right_ 0
def f_X7_count_67 (R_X7_count : (Nat → Int32) → (Nat → Int32) → (Nat → Int32) → Int32 → Int32 → Option (Int32)) (N : Nat) (kind : Nat → Int32) (left_ : Nat → Int32) (right_ : Nat → Int32) (s0 : Int32) (s1 : Int32) : Option (Int32) := some (s0 + s1)
def f_X7_count_120 (R_X7_count : (Nat → Int32) → (Nat → Int32) → (Nat → Int32) → Int32 → Int32 → Option (Int32)) (N : Nat) (kind : Nat → Int32) (left_ : Nat → Int32) (right_ : Nat → Int32) (s0 : Int32) : Option (Int32) := some s0
def f_X7_count_112 (R_X7_count : (Nat → Int32) → (Nat → Int32) → (Nat → Int32) → Int32 → Int32 → Option (Int32)) (N : Nat) (kind : Nat → Int32) (left_ : Nat → Int32) (right_ : Nat → Int32) (s0 : Int32) (s1 : Int32) : Option (Int32) := f_X7_count_120 R_X7_count N kind left_ right_ (s0 + s1)
def F_X7_count (R_X7_count : (Nat → Int32) → (Nat → Int32) → (Nat → Int32) → Int32 → Int32 → Option (Int32)) (N : Nat) (kind : Nat → Int32) (left_ : Nat → Int32) (right_ : Nat → Int32) (x1 : Int32) (x2 : Int32) : Option (Int32) := ix x1 24000 (ifb (3 ≤ (kind x1.toNatClampNeg)) (ix x1 24000 (ifb ((kind x1.toNatClampNeg) < 5) (ix x1 24000 ((R_X7_count kind left_ right_ (left_ x1.toNatClampNeg) x2).bind (fun z77 => ix x1 24000 ((R_X7_count kind left_ right_ (right_ x1.toNatClampNeg) x2).bind (fun z89 => ifb (x2 = 3) (ifb (z77 ≤ z89) (f_X7_count_112 R_X7_count N kind left_ right_ 1 z89) (f_X7_count_112 R_X7_count N kind left_ right_ 1 z77)) (f_X7_count_120 R_X7_count N kind left_ right_ (z77 + z89))))))) (ix x1 24000 ((R_X7_count kind left_ right_ (right_ x1.toNatClampNeg) x2).bind (fun z54 => ifb (x2 = 1) (f_X7_count_67 R_X7_count N kind left_ right_ z54 0) (f_X7_count_67 R_X7_count N kind left_ right_ z54 1)))))) (ifb (x2 = 3) (f_X7_count_30 R_X7_count N kind left_ right_) (ifb (x2 = 1) (ix x1 24000 (ifb ((kind x1.toNatClampNeg) = 2) (f_X7_count_30 R_X7_count N kind left_ right_) (f_X7_count_34 R_X7_count N kind left_ right_))) (f_X7_count_34 R_X7_count N kind left_ right_))))
variable {p : Program} {l : Launch} {e : Env} {s : State} {m : MethodId} {below : List Frame} {meth : Method} {c : Code} {args : Array Value} {x0 : Cond} {D : va_G} {cI cJ cB : ClassId} {sz N : Nat} {ws0 : va_W} {a0 a_many a_bits a_rows a_table a_roots a_moved a_text a_out a_above a_below a_row a_sum a_point a_pointRows a_pointSorts a_kind a_left a_right : Nat} {thrown : Int32} {used : Int32} {rooted : Int32} {size : Int32} {outSize : Int32} {points : Int32} {takenOut : Int32} {great : Int32} {at_ : Int32} {fault : Int32} {open_ : Int32} {wrong : Int32} {by_ : Int64} {sort : Int32} {variable_ : Int32} {pointCount : Int32} {kind : Nat → Int32} {left_ : Nat → Int32} {right_ : Nat → Int32} {z : Int32} {d : Nat} {R_X7_count : (Nat → Int32) → (Nat → Int32) → (Nat → Int32) → Int32 → Int32 → Option (Int32)}
set_option maxHeartbeats 4000000 in
set_option maxRecDepth 100000 in
theorem w_X7_count_35 (CX : Cx p m c cX7_count 5 s args x0 RX7 meth (some .int)) (hK : va_K D vwCl (ty0 cI cJ cB) s) (hsz : s.heap.size = sz) (ih_X7_count : CP_X7_count l D cI cJ cB (rmg_count d) R_X7_count) : ∀ (s0 : Int32) (H : Heap) (locs : List Loc) (ls : Array Slot), f_X7_count_35 R_X7_count N kind left_ right_ s0 = some z → va_P D vwCl (ws_X7_count cI cJ cB a0 a_many a_bits a_rows a_table a_roots a_moved a_text a_out a_above a_below a_row a_sum a_point a_pointRows a_pointSorts a_kind a_left a_right thrown used rooted size outSize points takenOut great at_ fault open_ wrong by_ sort variable_ pointCount kind left_ right_) H → va_D (va_A ws0 sz) (ws_X7_count cI cJ cB a0 a_many a_bits a_rows a_table a_roots a_moved a_text a_out a_above a_below a_row a_sum a_point a_pointRows a_pointSorts a_kind a_left a_right thrown used rooted size outSize points takenOut great at_ fault open_ wrong by_ sort variable_ pointCount kind left_ right_) → va_S (va_A ws0 sz) s.heap H locs → lv_has ls 5 [] → W p l e (rmg_count (d + 1)) s m args below meth c H locs 0 0 (MQ below (gQ D sz ws0 (ws_X7_count cI cJ cB a0 a_many a_bits a_rows a_table a_roots a_moved a_text a_out a_above a_below a_row a_sum a_point a_pointRows a_pointSorts a_kind a_left a_right thrown used rooted size outSize points takenOut great at_ fault open_ wrong by_ sort variable_ pointCount kind left_ right_) (some (.int z))) args s 0 0 (va_A ws0 sz)) (F0 m 35 ls [.int s0]) := by
  obtain ⟨F, hr, hlk, hNw⟩ := id CX
  have hx := F.1
  have hb := F.2.1
  have hown := F.2.2.2.1
  have hA : ∀ q, s.heap.size ≤ q → va_A ws0 sz q := fun q hq => Or.inr (hsz ▸ hq)
  intro s0 H locs ls h hP hD hS hl
  unfold f_X7_count_35 at h
  obtain rfl := Option.some.inj h
  exact r_ret (v := s0) F hr hlk rfl dX7_count_35 hsz hP hD hS
set_option maxHeartbeats 4000000 in
set_option maxRecDepth 100000 in
theorem w_X7_count_30 (CX : Cx p m c cX7_count 5 s args x0 RX7 meth (some .int)) (hK : va_K D vwCl (ty0 cI cJ cB) s) (hsz : s.heap.size = sz) (ih_X7_count : CP_X7_count l D cI cJ cB (rmg_count d) R_X7_count) : ∀ (H : Heap) (locs : List Loc) (ls : Array Slot), f_X7_count_30 R_X7_count N kind left_ right_ = some z → va_P D vwCl (ws_X7_count cI cJ cB a0 a_many a_bits a_rows a_table a_roots a_moved a_text a_out a_above a_below a_row a_sum a_point a_pointRows a_pointSorts a_kind a_left a_right thrown used rooted size outSize points takenOut great at_ fault open_ wrong by_ sort variable_ pointCount kind left_ right_) H → va_D (va_A ws0 sz) (ws_X7_count cI cJ cB a0 a_many a_bits a_rows a_table a_roots a_moved a_text a_out a_above a_below a_row a_sum a_point a_pointRows a_pointSorts a_kind a_left a_right thrown used rooted size outSize points takenOut great at_ fault open_ wrong by_ sort variable_ pointCount kind left_ right_) → va_S (va_A ws0 sz) s.heap H locs → lv_has ls 5 [] → W p l e (rmg_count (d + 1)) s m args below meth c H locs 0 0 (MQ below (gQ D sz ws0 (ws_X7_count cI cJ cB a0 a_many a_bits a_rows a_table a_roots a_moved a_text a_out a_above a_below a_row a_sum a_point a_pointRows a_pointSorts a_kind a_left a_right thrown used rooted size outSize points takenOut great at_ fault open_ wrong by_ sort variable_ pointCount kind left_ right_) (some (.int z))) args s 0 0 (va_A ws0 sz)) (F0 m 30 ls []) := by
  obtain ⟨F, hr, hlk, hNw⟩ := id CX
  have hx := F.1
  have hb := F.2.1
  have hown := F.2.2.2.1
  have hA : ∀ q, s.heap.size ≤ q → va_A ws0 sz q := fun q hq => Or.inr (hsz ▸ hq)
  intro  H locs ls h hP hD hS hl
  unfold f_X7_count_30 at h
  refine lv_iconst (v := 1) hx hb dX7_count_30 (by decide) ?_
  refine lv_goto (tgt := 35) hx hb dX7_count_31 (by decide) ?_
  exact w_X7_count_35 CX hK hsz (ih_X7_count := ih_X7_count) 1 _ _ _ h hP hD hS (lv_sub hl [] rfl)
set_option maxHeartbeats 4000000 in
set_option maxRecDepth 100000 in
theorem w_X7_count_34 (CX : Cx p m c cX7_count 5 s args x0 RX7 meth (some .int)) (hK : va_K D vwCl (ty0 cI cJ cB) s) (hsz : s.heap.size = sz) (ih_X7_count : CP_X7_count l D cI cJ cB (rmg_count d) R_X7_count) : ∀ (H : Heap) (locs : List Loc) (ls : Array Slot), f_X7_count_34 R_X7_count N kind left_ right_ = some z → va_P D vwCl (ws_X7_count cI cJ cB a0 a_many a_bits a_rows a_table a_roots a_moved a_text a_out a_above a_below a_row a_sum a_point a_pointRows a_pointSorts a_kind a_left a_right thrown used rooted size outSize points takenOut great at_ fault open_ wrong by_ sort variable_ pointCount kind left_ right_) H → va_D (va_A ws0 sz) (ws_X7_count cI cJ cB a0 a_many a_bits a_rows a_table a_roots a_moved a_text a_out a_above a_below a_row a_sum a_point a_pointRows a_pointSorts a_kind a_left a_right thrown used rooted size outSize points takenOut great at_ fault open_ wrong by_ sort variable_ pointCount kind left_ right_) → va_S (va_A ws0 sz) s.heap H locs → lv_has ls 5 [] → W p l e (rmg_count (d + 1)) s m args below meth c H locs 0 0 (MQ below (gQ D sz ws0 (ws_X7_count cI cJ cB a0 a_many a_bits a_rows a_table a_roots a_moved a_text a_out a_above a_below a_row a_sum a_point a_pointRows a_pointSorts a_kind a_left a_right thrown used rooted size outSize points takenOut great at_ fault open_ wrong by_ sort variable_ pointCount kind left_ right_) (some (.int z))) args s 0 0 (va_A ws0 sz)) (F0 m 34 ls []) := by
  obtain ⟨F, hr, hlk, hNw⟩ := id CX
  have hx := F.1
  have hb := F.2.1
  have hown := F.2.2.2.1
  have hA : ∀ q, s.heap.size ≤ q → va_A ws0 sz q := fun q hq => Or.inr (hsz ▸ hq)
  intro  H locs ls h hP hD hS hl
  unfold f_X7_count_34 at h
  refine lv_iconst (v := 0) hx hb dX7_count_34 (by decide) ?_
  exact w_X7_count_35 CX hK hsz (ih_X7_count := ih_X7_count) 0 _ _ _ h hP hD hS (lv_sub hl [] rfl)
set_option maxHeartbeats 4000000 in
set_option maxRecDepth 100000 in
theorem w_X7_count_67 (CX : Cx p m c cX7_count 5 s args x0 RX7 meth (some .int)) (hK : va_K D vwCl (ty0 cI cJ cB) s) (hsz : s.heap.size = sz) (ih_X7_count : CP_X7_count l D cI cJ cB (rmg_count d) R_X7_count) : ∀ (s0 : Int32) (s1 : Int32) (H : Heap) (locs : List Loc) (ls : Array Slot), f_X7_count_67 R_X7_count N kind left_ right_ s0 s1 = some z → va_P D vwCl (ws_X7_count cI cJ cB a0 a_many a_bits a_rows a_table a_roots a_moved a_text a_out a_above a_below a_row a_sum a_point a_pointRows a_pointSorts a_kind a_left a_right thrown used rooted size outSize points takenOut great at_ fault open_ wrong by_ sort variable_ pointCount kind left_ right_) H → va_D (va_A ws0 sz) (ws_X7_count cI cJ cB a0 a_many a_bits a_rows a_table a_roots a_moved a_text a_out a_above a_below a_row a_sum a_point a_pointRows a_pointSorts a_kind a_left a_right thrown used rooted size outSize points takenOut great at_ fault open_ wrong by_ sort variable_ pointCount kind left_ right_) → va_S (va_A ws0 sz) s.heap H locs → lv_has ls 5 [] → W p l e (rmg_count (d + 1)) s m args below meth c H locs 0 0 (MQ below (gQ D sz ws0 (ws_X7_count cI cJ cB a0 a_many a_bits a_rows a_table a_roots a_moved a_text a_out a_above a_below a_row a_sum a_point a_pointRows a_pointSorts a_kind a_left a_right thrown used rooted size outSize points takenOut great at_ fault open_ wrong by_ sort variable_ pointCount kind left_ right_) (some (.int z))) args s 0 0 (va_A ws0 sz)) (F0 m 67 ls [.int s1, .int s0]) := by
  obtain ⟨F, hr, hlk, hNw⟩ := id CX
  have hx := F.1
  have hb := F.2.1
  have hown := F.2.2.2.1
  have hA : ∀ q, s.heap.size ≤ q → va_A ws0 sz q := fun q hq => Or.inr (hsz ▸ hq)
  intro s0 s1 H locs ls h hP hD hS hl
  unfold f_X7_count_67 at h
  refine lv_iadd hx hb dX7_count_67 ?_
  obtain rfl := Option.some.inj h
  exact r_ret (v := s0 + s1) F hr hlk rfl dX7_count_68 hsz hP hD hS
set_option maxHeartbeats 4000000 in
set_option maxRecDepth 100000 in
theorem w_X7_count_120 (CX : Cx p m c cX7_count 5 s args x0 RX7 meth (some .int)) (hK : va_K D vwCl (ty0 cI cJ cB) s) (hsz : s.heap.size = sz) (ih_X7_count : CP_X7_count l D cI cJ cB (rmg_count d) R_X7_count) : ∀ (s0 : Int32) (H : Heap) (locs : List Loc) (ls : Array Slot), f_X7_count_120 R_X7_count N kind left_ right_ s0 = some z → va_P D vwCl (ws_X7_count cI cJ cB a0 a_many a_bits a_rows a_table a_roots a_moved a_text a_out a_above a_below a_row a_sum a_point a_pointRows a_pointSorts a_kind a_left a_right thrown used rooted size outSize points takenOut great at_ fault open_ wrong by_ sort variable_ pointCount kind left_ right_) H → va_D (va_A ws0 sz) (ws_X7_count cI cJ cB a0 a_many a_bits a_rows a_table a_roots a_moved a_text a_out a_above a_below a_row a_sum a_point a_pointRows a_pointSorts a_kind a_left a_right thrown used rooted size outSize points takenOut great at_ fault open_ wrong by_ sort variable_ pointCount kind left_ right_) → va_S (va_A ws0 sz) s.heap H locs → lv_has ls 5 [] → W p l e (rmg_count (d + 1)) s m args below meth c H locs 0 0 (MQ below (gQ D sz ws0 (ws_X7_count cI cJ cB a0 a_many a_bits a_rows a_table a_roots a_moved a_text a_out a_above a_below a_row a_sum a_point a_pointRows a_pointSorts a_kind a_left a_right thrown used rooted size outSize points takenOut great at_ fault open_ wrong by_ sort variable_ pointCount kind left_ right_) (some (.int z))) args s 0 0 (va_A ws0 sz)) (F0 m 120 ls [.int s0]) := by
  obtain ⟨F, hr, hlk, hNw⟩ := id CX
  have hx := F.1
  have hb := F.2.1
  have hown := F.2.2.2.1
  have hA : ∀ q, s.heap.size ≤ q → va_A ws0 sz q := fun q hq => Or.inr (hsz ▸ hq)
  intro s0 H locs ls h hP hD hS hl
  unfold f_X7_count_120 at h
  obtain rfl := Option.some.inj h
  exact r_ret (v := s0) F hr hlk rfl dX7_count_120 hsz hP hD hS
set_option maxHeartbeats 4000000 in
set_option maxRecDepth 100000 in
theorem w_X7_count_112 (CX : Cx p m c cX7_count 5 s args x0 RX7 meth (some .int)) (hK : va_K D vwCl (ty0 cI cJ cB) s) (hsz : s.heap.size = sz) (ih_X7_count : CP_X7_count l D cI cJ cB (rmg_count d) R_X7_count) : ∀ (s0 : Int32) (s1 : Int32) (H : Heap) (locs : List Loc) (ls : Array Slot), f_X7_count_112 R_X7_count N kind left_ right_ s0 s1 = some z → va_P D vwCl (ws_X7_count cI cJ cB a0 a_many a_bits a_rows a_table a_roots a_moved a_text a_out a_above a_below a_row a_sum a_point a_pointRows a_pointSorts a_kind a_left a_right thrown used rooted size outSize points takenOut great at_ fault open_ wrong by_ sort variable_ pointCount kind left_ right_) H → va_D (va_A ws0 sz) (ws_X7_count cI cJ cB a0 a_many a_bits a_rows a_table a_roots a_moved a_text a_out a_above a_below a_row a_sum a_point a_pointRows a_pointSorts a_kind a_left a_right thrown used rooted size outSize points takenOut great at_ fault open_ wrong by_ sort variable_ pointCount kind left_ right_) → va_S (va_A ws0 sz) s.heap H locs → lv_has ls 5 [] → W p l e (rmg_count (d + 1)) s m args below meth c H locs 0 0 (MQ below (gQ D sz ws0 (ws_X7_count cI cJ cB a0 a_many a_bits a_rows a_table a_roots a_moved a_text a_out a_above a_below a_row a_sum a_point a_pointRows a_pointSorts a_kind a_left a_right thrown used rooted size outSize points takenOut great at_ fault open_ wrong by_ sort variable_ pointCount kind left_ right_) (some (.int z))) args s 0 0 (va_A ws0 sz)) (F0 m 112 ls [.int s1, .int s0]) := by
  obtain ⟨F, hr, hlk, hNw⟩ := id CX
  have hx := F.1
  have hb := F.2.1
  have hown := F.2.2.2.1
  have hA : ∀ q, s.heap.size ≤ q → va_A ws0 sz q := fun q hq => Or.inr (hsz ▸ hq)
  intro s0 s1 H locs ls h hP hD hS hl
  unfold f_X7_count_112 at h
  refine lv_iadd hx hb dX7_count_112 ?_
  refine lv_goto (tgt := 120) hx hb dX7_count_113 (by decide) ?_
  exact w_X7_count_120 CX hK hsz (ih_X7_count := ih_X7_count) (s0 + s1) _ _ _ h hP hD hS (lv_sub hl [] rfl)
end G_X7_count
set_option maxHeartbeats 4000000 in
set_option maxRecDepth 100000 in
theorem cF_X7_count (l : Launch) (D : va_G) (cI cJ cB : ClassId) (N d : Nat) {R_X7_count : (Nat → Int32) → (Nat → Int32) → (Nat → Int32) → Int32 → Int32 → Option (Int32)} (ih_X7_count : CP_X7_count l D cI cJ cB (rmg_count d) R_X7_count) : CP_X7_count l D cI cJ cB (rmg_count (d + 1)) (F_X7_count R_X7_count N) := by
  intro a0 a_many a_bits a_rows a_table a_roots a_moved a_text a_out a_above a_below a_row a_sum a_point a_pointRows a_pointSorts a_kind a_left a_right sz thrown used rooted size outSize points takenOut great at_ fault open_ wrong by_ sort variable_ pointCount kind left_ right_ x1 x2 z h
  refine Mg.of (by decide) (Nat.le_of_ble_eq_true rfl) ?_
  intro p e s m below meth c CX hK hsz hP hD ls hl
  have CX : Cx p m c cX7_count 5 s ([.ref a0, .int x1, .int x2] : List Value).toArray (Cond.code yX7_count cX7_count 5 (some .int)) RX7 meth (some .int) := CX
  obtain ⟨F, hr, hlk, hNw⟩ := id CX
  have hx := F.1
  have hb := F.2.1
  have hown := F.2.2.2.1
  have hl : lv_has ls 5 [(0, .ref a0), (1, .int x1), (2, .int x2)] := hl
  have hS : va_S (va_A (ws_X7_count cI cJ cB a0 a_many a_bits a_rows a_table a_roots a_moved a_text a_out a_above a_below a_row a_sum a_point a_pointRows a_pointSorts a_kind a_left a_right thrown used rooted size outSize points takenOut great at_ fault open_ wrong by_ sort variable_ pointCount kind left_ right_) sz) s.heap s.heap [] := va_S.rf
  have hA : ∀ q, s.heap.size ≤ q → va_A (ws_X7_count cI cJ cB a0 a_many a_bits a_rows a_table a_roots a_moved a_text a_out a_above a_below a_row a_sum a_point a_pointRows a_pointSorts a_kind a_left a_right thrown used rooted size outSize points takenOut great at_ fault open_ wrong by_ sort variable_ pointCount kind left_ right_) sz q := fun q hq => Or.inr (hsz ▸ hq)
  unfold F_X7_count at h
  refine lv_aload_n hx hb dX7_count_0 rfl (lv_at hl 0 rfl) ?_
  refine r_get F hK hP 0 1 rfl inW_X7 wm_1093 rfl (by decide) rfl dX7_count_1 ?_
  refine lv_iload_n hx hb dX7_count_4 rfl (lv_at hl 1 rfl) ?_
  obtain ⟨hi5, h⟩ := o_ix h
  refine va_iald hx hb hK hP 1 0 rfl rfl hi5 dX7_count_5 ?_
  refine lv_iconst (v := 3) hx hb dX7_count_6 (by decide) ?_
  refine lv_icmp_ge (tgt := 36) hx hb dX7_count_7 (by decide) (fun c7 => ?_) (fun c7 => ?_)
  · have h := o_t c7 h
    refine lv_aload_n hx hb dX7_count_36 rfl (lv_at hl 0 rfl) ?_
    refine r_get F hK hP 0 1 rfl inW_X7 wm_1093 rfl (by decide) rfl dX7_count_37 ?_
    refine lv_iload_n hx hb dX7_count_40 rfl (lv_at hl 1 rfl) ?_
    obtain ⟨hi41, h⟩ := o_ix h
    refine va_iald hx hb hK hP 1 0 rfl rfl hi41 dX7_count_41 ?_
    refine lv_iconst (v := 5) hx hb dX7_count_42 (by decide) ?_
    refine lv_icmp_lt (tgt := 69) hx hb dX7_count_43 (by decide) (fun c43 => ?_) (fun c43 => ?_)
    · have h := o_t c43 h
      refine lv_aload_n hx hb dX7_count_69 rfl (lv_at hl 0 rfl) ?_
      refine lv_aload_n hx hb dX7_count_70 rfl (lv_at hl 0 rfl) ?_
      refine r_get F hK hP 0 2 rfl inW_X7 wm_1094 rfl (by decide) rfl dX7_count_71 ?_
      refine lv_iload_n hx hb dX7_count_74 rfl (lv_at hl 1 rfl) ?_
      obtain ⟨hi75, h⟩ := o_ix h
      refine va_iald hx hb hK hP 2 0 rfl rfl hi75 dX7_count_75 ?_
      refine lv_iload_n hx hb dX7_count_76 rfl (lv_at hl 2 rfl) ?_
      obtain ⟨z77, hz77, h⟩ := o_b h
      refine k_v (wn := (ws_X7_count cI cJ cB a0 a_many a_bits a_rows a_table a_roots a_moved a_text a_out a_above a_below a_row a_sum a_point a_pointRows a_pointSorts a_kind a_left a_right thrown used rooted size outSize points takenOut great at_ fault open_ wrong by_ sort variable_ pointCount kind left_ right_)) (As := [.int (left_ x1.toNatClampNeg), .int x2]) (rest := []) F hNw hK hP hD hS hA (ih_X7_count a0 a_many a_bits a_rows a_table a_roots a_moved a_text a_out a_above a_below a_row a_sum a_point a_pointRows a_pointSorts a_kind a_left a_right _ thrown used rooted size outSize points takenOut great at_ fault open_ wrong by_ sort variable_ pointCount kind left_ right_ (left_ x1.toNatClampNeg) x2 hz77) wm_1334 cv_X7_count [0, 1, 2, 3] [] [0, 1, 2, 3] (⟨rfl, rfl, rfl, by decide, rfl⟩ : Ix [0, 1, 2, 3] [] [0, 1, 2, 3] 4) rfl (hN_of 0 4 (by decide +kernel) rfl (by decide +kernel) rfl) rfl rfl rfl rfl ⟨rfl, rfl, by show 0 + d + 1 ≤ 0 + (d + 1); omega, by show 8 + (5 + 11) + (0 + 24 * d) ≤ 0 + 24 * (d + 1); omega⟩ hl.1 rfl (Nat.le_of_ble_eq_true rfl) ⟨Nat.zero_le _, Nat.zero_le _⟩ dX7_count_77 (fun H locs hP hD hS => ?_)
      refine lv_istore_n (lv' := [(3, .int z77), (0, .ref a0), (1, .int x1), (2, .int x2)]) hx hb dX7_count_80 rfl hl (by decide) rfl (fun ls hl => ?_)
      refine lv_aload_n hx hb dX7_count_81 rfl (lv_at hl 1 rfl) ?_
      refine lv_aload_n hx hb dX7_count_82 rfl (lv_at hl 1 rfl) ?_
      refine r_get F hK hP 0 3 rfl inW_X7 wm_1095 rfl (by decide) rfl dX7_count_83 ?_
      refine lv_iload_n hx hb dX7_count_86 rfl (lv_at hl 2 rfl) ?_
      obtain ⟨hi87, h⟩ := o_ix h
      refine va_iald hx hb hK hP 3 0 rfl rfl hi87 dX7_count_87 ?_
      refine lv_iload_n hx hb dX7_count_88 rfl (lv_at hl 3 rfl) ?_
      obtain ⟨z89, hz89, h⟩ := o_b h
      refine k_v (wn := (ws_X7_count cI cJ cB a0 a_many a_bits a_rows a_table a_roots a_moved a_text a_out a_above a_below a_row a_sum a_point a_pointRows a_pointSorts a_kind a_left a_right thrown used rooted size outSize points takenOut great at_ fault open_ wrong by_ sort variable_ pointCount kind left_ right_)) (As := [.int (right_ x1.toNatClampNeg), .int x2]) (rest := []) F hNw hK hP hD hS hA (ih_X7_count a0 a_many a_bits a_rows a_table a_roots a_moved a_text a_out a_above a_below a_row a_sum a_point a_pointRows a_pointSorts a_kind a_left a_right _ thrown used rooted size outSize points takenOut great at_ fault open_ wrong by_ sort variable_ pointCount kind left_ right_ (right_ x1.toNatClampNeg) x2 hz89) wm_1334 cv_X7_count [0, 1, 2, 3] [] [0, 1, 2, 3] (⟨rfl, rfl, rfl, by decide, rfl⟩ : Ix [0, 1, 2, 3] [] [0, 1, 2, 3] 4) rfl (hN_of 0 4 (by decide +kernel) rfl (by decide +kernel) rfl) rfl rfl rfl rfl ⟨rfl, rfl, by show 0 + d + 1 ≤ 0 + (d + 1); omega, by show 8 + (5 + 11) + (0 + 24 * d) ≤ 0 + 24 * (d + 1); omega⟩ hl.1 rfl (Nat.le_of_ble_eq_true rfl) ⟨Nat.zero_le _, Nat.zero_le _⟩ dX7_count_89 (fun H locs hP hD hS => ?_)
      refine lv_istore (lv' := [(4, .int z89), (3, .int z77), (0, .ref a0), (1, .int x1), (2, .int x2)]) hx hb dX7_count_92 hl (by decide) rfl (fun ls hl => ?_)
      refine lv_iload_n hx hb dX7_count_94 rfl (lv_at hl 4 rfl) ?_
      refine lv_iconst (v := 3) hx hb dX7_count_95 (by decide) ?_
      refine lv_icmp_ne (tgt := 116) hx hb dX7_count_96 (by decide) (fun c96 => ?_) (fun c96 => ?_)
      · have h := o_f c96 h
        refine lv_iload_n hx hb dX7_count_116 rfl (lv_at hl 1 rfl) ?_
        refine lv_iload hx hb dX7_count_117 (lv_at hl 0 rfl) ?_
        refine lv_iadd hx hb dX7_count_119 ?_
        exact w_X7_count_120 CX hK hsz (ih_X7_count := ih_X7_count) (z77 + z89) _ _ _ h hP hD hS (lv_sub hl [] rfl)
      · have h := o_t c96 h
        refine lv_iconst (v := 1) hx hb dX7_count_99 (by decide) ?_
        refine lv_iload_n hx hb dX7_count_100 rfl (lv_at hl 1 rfl) ?_
        refine lv_iload hx hb dX7_count_101 (lv_at hl 0 rfl) ?_
        refine lv_icmp_le (tgt := 110) hx hb dX7_count_103 (by decide) (fun c103 => ?_) (fun c103 => ?_)
        · have h := o_t c103 h
          refine lv_iload hx hb dX7_count_110 (lv_at hl 0 rfl) ?_
          exact w_X7_count_112 CX hK hsz (ih_X7_count := ih_X7_count) 1 z89 _ _ _ h hP hD hS (lv_sub hl [] rfl)
        · have h := o_f c103 h
          refine lv_iload_n hx hb dX7_count_106 rfl (lv_at hl 1 rfl) ?_
          refine lv_goto (tgt := 112) hx hb dX7_count_107 (by decide) ?_
          exact w_X7_count_112 CX hK hsz (ih_X7_count := ih_X7_count) 1 z77 _ _ _ h hP hD hS (lv_sub hl [] rfl)
    · have h := o_f c43 h
      refine lv_aload_n hx hb dX7_count_46 rfl (lv_at hl 0 rfl) ?_
      refine lv_aload_n hx hb dX7_count_47 rfl (lv_at hl 0 rfl) ?_
      refine r_get F hK hP 0 3 rfl inW_X7 wm_1095 rfl (by decide) rfl dX7_count_48 ?_
      refine lv_iload_n hx hb dX7_count_51 rfl (lv_at hl 1 rfl) ?_
      obtain ⟨hi52, h⟩ := o_ix h
      refine va_iald hx hb hK hP 3 0 rfl rfl hi52 dX7_count_52 ?_
      refine lv_iload_n hx hb dX7_count_53 rfl (lv_at hl 2 rfl) ?_
      obtain ⟨z54, hz54, h⟩ := o_b h
      refine k_v (wn := (ws_X7_count cI cJ cB a0 a_many a_bits a_rows a_table a_roots a_moved a_text a_out a_above a_below a_row a_sum a_point a_pointRows a_pointSorts a_kind a_left a_right thrown used rooted size outSize points takenOut great at_ fault open_ wrong by_ sort variable_ pointCount kind left_ right_)) (As := [.int (right_ x1.toNatClampNeg), .int x2]) (rest := []) F hNw hK hP hD hS hA (ih_X7_count a0 a_many a_bits a_rows a_table a_roots a_moved a_text a_out a_above a_below a_row a_sum a_point a_pointRows a_pointSorts a_kind a_left a_right _ thrown used rooted size outSize points takenOut great at_ fault open_ wrong by_ sort variable_ pointCount kind left_ right_ (right_ x1.toNatClampNeg) x2 hz54) wm_1334 cv_X7_count [0, 1, 2, 3] [] [0, 1, 2, 3] (⟨rfl, rfl, rfl, by decide, rfl⟩ : Ix [0, 1, 2, 3] [] [0, 1, 2, 3] 4) rfl (hN_of 0 4 (by decide +kernel) rfl (by decide +kernel) rfl) rfl rfl rfl rfl ⟨rfl, rfl, by show 0 + d + 1 ≤ 0 + (d + 1); omega, by show 8 + (5 + 11) + (0 + 24 * d) ≤ 0 + 24 * (d + 1); omega⟩ hl.1 rfl (Nat.le_of_ble_eq_true rfl) ⟨Nat.zero_le _, Nat.zero_le _⟩ dX7_count_54 (fun H locs hP hD hS => ?_)
      refine lv_iload_n hx hb dX7_count_57 rfl (lv_at hl 2 rfl) ?_
      refine lv_iconst (v := 1) hx hb dX7_count_58 (by decide) ?_
      refine lv_icmp_ne (tgt := 66) hx hb dX7_count_59 (by decide) (fun c59 => ?_) (fun c59 => ?_)
      · have h := o_f c59 h
        refine lv_iconst (v := 1) hx hb dX7_count_66 (by decide) ?_
        exact w_X7_count_67 CX hK hsz (ih_X7_count := ih_X7_count) z54 1 _ _ _ h hP hD hS (lv_sub hl [] rfl)
      · have h := o_t c59 h
        refine lv_iconst (v := 0) hx hb dX7_count_62 (by decide) ?_
        refine lv_goto (tgt := 67) hx hb dX7_count_63 (by decide) ?_
        exact w_X7_count_67 CX hK hsz (ih_X7_count := ih_X7_count) z54 0 _ _ _ h hP hD hS (lv_sub hl [] rfl)
  · have h := o_f c7 h
    refine lv_iload_n hx hb dX7_count_10 rfl (lv_at hl 2 rfl) ?_
    refine lv_iconst (v := 3) hx hb dX7_count_11 (by decide) ?_
    refine lv_icmp_eq (tgt := 30) hx hb dX7_count_12 (by decide) (fun c12 => ?_) (fun c12 => ?_)
    · have h := o_t c12 h
      exact w_X7_count_30 CX hK hsz (ih_X7_count := ih_X7_count)  _ _ _ h hP hD hS (lv_sub hl [] rfl)
    · have h := o_f c12 h
      refine lv_iload_n hx hb dX7_count_15 rfl (lv_at hl 2 rfl) ?_
      refine lv_iconst (v := 1) hx hb dX7_count_16 (by decide) ?_
      refine lv_icmp_ne (tgt := 34) hx hb dX7_count_17 (by decide) (fun c17 => ?_) (fun c17 => ?_)
      · have h := o_f c17 h
        exact w_X7_count_34 CX hK hsz (ih_X7_count := ih_X7_count)  _ _ _ h hP hD hS (lv_sub hl [] rfl)
      · have h := o_t c17 h
        refine lv_aload_n hx hb dX7_count_20 rfl (lv_at hl 0 rfl) ?_
        refine r_get F hK hP 0 1 rfl inW_X7 wm_1093 rfl (by decide) rfl dX7_count_21 ?_
        refine lv_iload_n hx hb dX7_count_24 rfl (lv_at hl 1 rfl) ?_
        obtain ⟨hi25, h⟩ := o_ix h
        refine va_iald hx hb hK hP 1 0 rfl rfl hi25 dX7_count_25 ?_
        refine lv_iconst (v := 2) hx hb dX7_count_26 (by decide) ?_
        refine lv_icmp_ne (tgt := 34) hx hb dX7_count_27 (by decide) (fun c27 => ?_) (fun c27 => ?_)
        · have h := o_f c27 h
          exact w_X7_count_34 CX hK hsz (ih_X7_count := ih_X7_count)  _ _ _ h hP hD hS (lv_sub hl [] rfl)
        · have h := o_t c27 h
          exact w_X7_count_30 CX hK hsz (ih_X7_count := ih_X7_count)  _ _ _ h hP hD hS (lv_sub hl [] rfl)
def fg_count (N : Nat) : Nat → ((Nat → Int32) → (Nat → Int32) → (Nat → Int32) → Int32 → Int32 → Option (Int32))
  | 0 => fun _ _ _ _ _ => none
  | d + 1 => F_X7_count (fg_count N d) N
theorem cg_count (l : Launch) (D : va_G) (cI cJ cB : ClassId) (N : Nat) : ∀ d : Nat, CP_X7_count l D cI cJ cB (rmg_count d) (fg_count N d) := by
  intro d
  induction d with
  | zero =>
    exact (by intro a0 a_many a_bits a_rows a_table a_roots a_moved a_text a_out a_above a_below a_row a_sum a_point a_pointRows a_pointSorts a_kind a_left a_right sz thrown used rooted size outSize points takenOut great at_ fault open_ wrong by_ sort variable_ pointCount kind left_ right_ x1 x2 z h; cases h)
  | succ d ih =>
    exact cF_X7_count l D cI cJ cB N d ih
def f_X7_count (N : Nat) (kind : Nat → Int32) (left_ : Nat → Int32) (right_ : Nat → Int32) (x1 : Int32) (x2 : Int32) : Option (Int32) := (fg_count N 450) kind left_ right_ x1 x2
abbrev rm_X7_count : Room := { frames := 450, cells := 0, slots := 0, locals := 10800 }
theorem c_X7_count (l : Launch) (D : va_G) (cI cJ cB : ClassId) (a0 a_many a_bits a_rows a_table a_roots a_moved a_text a_out a_above a_below a_row a_sum a_point a_pointRows a_pointSorts a_kind a_left a_right : Nat) (sz : Nat) (thrown : Int32) (used : Int32) (rooted : Int32) (size : Int32) (outSize : Int32) (points : Int32) (takenOut : Int32) (great : Int32) (at_ : Int32) (fault : Int32) (open_ : Int32) (wrong : Int32) (by_ : Int64) (sort : Int32) (variable_ : Int32) (pointCount : Int32) (kind : Nat → Int32) (left_ : Nat → Int32) (right_ : Nat → Int32) (x1 : Int32) (x2 : Int32) (N : Nat) {z : Int32} (h : f_X7_count N kind left_ right_ x1 x2 = some z) : Mg l yX7_count cX7_count 5 (some .int) rm_X7_count D (ty0 cI cJ cB) [.ref a0, .int x1, .int x2] sz (ws_X7_count cI cJ cB a0 a_many a_bits a_rows a_table a_roots a_moved a_text a_out a_above a_below a_row a_sum a_point a_pointRows a_pointSorts a_kind a_left a_right thrown used rooted size outSize points takenOut great at_ fault open_ wrong by_ sort variable_ pointCount kind left_ right_) (some (.int z)) (ws_X7_count cI cJ cB a0 a_many a_bits a_rows a_table a_roots a_moved a_text a_out a_above a_below a_row a_sum a_point a_pointRows a_pointSorts a_kind a_left a_right thrown used rooted size outSize points takenOut great at_ fault open_ wrong by_ sort variable_ pointCount kind left_ right_) :=
  (cg_count l D cI cJ cB N 450) a0 a_many a_bits a_rows a_table a_roots a_moved a_text a_out a_above a_below a_row a_sum a_point a_pointRows a_pointSorts a_kind a_left a_right sz thrown used rooted size outSize points takenOut great at_ fault open_ wrong by_ sort variable_ pointCount kind left_ right_ x1 x2 h
section G_X7_hashOf
abbrev ws_X7_hashOf (cI cJ cB : ClassId) (a0 a_kind a_left a_right a_many a_bits a_table a_roots a_moved a_text a_out a_above a_below a_sum a_point a_pointRows a_pointSorts a_rows a_row : Nat) (thrown : Int32) (used : Int32) (rooted : Int32) (size : Int32) (outSize : Int32) (points : Int32) (takenOut : Int32) (great : Int32) (at_ : Int32) (fault : Int32) (open_ : Int32) (wrong : Int32) (by_ : Int64) (sort : Int32) (variable_ : Int32) (pointCount : Int32) (rows : Nat → Int32) (row : Nat → Int64) : va_W := [(a0, .inr (9, [.int thrown, .ref a_kind, .ref a_left, .ref a_right, .ref a_many, .ref a_bits, .ref a_rows, .ref a_table, .int used, .ref a_roots, .int rooted, .ref a_moved, .ref a_text, .int size, .ref a_out, .int outSize, .ref a_above, .ref a_below, .int points, .int takenOut, .int great, .ref a_row, .int at_, .int fault, .int open_, .int wrong, .ref a_sum, .ref a_point, .long by_, .int sort, .int variable_, .ref a_pointRows, .ref a_pointSorts, .int pointCount])), (a_rows, .inl (cI, 216000, .inl rows)), (a_row, .inl (cJ, 9, .inr (.inl row)))]
abbrev rm_X7_hashOf : Room := { frames := 0, cells := 0, slots := 0, locals := 0 }
def f_X7_hashOf_66 (K20 : (Nat → Int32) → (Nat → Int64) → Int32 → Int32 → Int32 → Int32 → Option (Int32)) (N : Nat) (rows : Nat → Int32) (row : Nat → Int64) (y4 : Int32) (y5 : Int32) (y7 : Int32) (s0 : Int32) (s1 : Int32) : Option (Int32) := K20 rows row y4 y5 (s0 + s1) (y7 + 1)
def f_X7_hashOf_75 (N : Nat) (rows : Nat → Int32) (row : Nat → Int64) (y6 : Int32) : Option (Int32) := some ((y6 ^^^ ((y6.toUInt32 >>> ((15 : Int32).toUInt32 &&& Int32.toUInt32 31)).toInt32)) &&& 65535)
def f_X7_hashOf_20 (N : Nat) : Nat → (Nat → Int32) → (Nat → Int64) → Int32 → Int32 → Int32 → Int32 → Option (Int32)
  | 0 => fun _ _ _ _ _ _ => none
  | n + 1 => fun rows row y4 y5 y6 y7 => ifb (9 ≤ y7) (f_X7_hashOf_75 N rows row y6) (ifb (y4 = 0) (f_X7_hashOf_75 N rows row y6) (ifb (0 ≤ y5) (ix ((9 * y5) + y7) 216000 (f_X7_hashOf_66 (f_X7_hashOf_20 N n) N rows row y4 y5 y7 (y6 * 1000003) (rows ((9 * y5) + y7).toNatClampNeg))) (ix y7 9 (f_X7_hashOf_66 (f_X7_hashOf_20 N n) N rows row y4 y5 y7 (y6 * 1000003) ((row y7.toNatClampNeg).toInt32)))))
def f_X7_hashOf (N : Nat) (rows : Nat → Int32) (row : Nat → Int64) (x1 : Int32) (x2 : Int32) (x3 : Int32) (x4 : Int32) (x5 : Int32) : Option (Int32) := f_X7_hashOf_20 N N rows row x4 x5 ((((x1 * 31) + x2) * 1000003) + x3) 0
variable {p : Program} {l : Launch} {e : Env} {s : State} {m : MethodId} {below : List Frame} {meth : Method} {c : Code} {args : Array Value} {x0 : Cond} {D : va_G} {cI cJ cB : ClassId} {sz N : Nat} {ws0 : va_W} {a0 a_kind a_left a_right a_many a_bits a_table a_roots a_moved a_text a_out a_above a_below a_sum a_point a_pointRows a_pointSorts a_rows a_row : Nat} {thrown : Int32} {used : Int32} {rooted : Int32} {size : Int32} {outSize : Int32} {points : Int32} {takenOut : Int32} {great : Int32} {at_ : Int32} {fault : Int32} {open_ : Int32} {wrong : Int32} {by_ : Int64} {sort : Int32} {variable_ : Int32} {pointCount : Int32} {rows : Nat → Int32} {row : Nat → Int64} {z : Int32}
set_option maxHeartbeats 4000000 in
set_option maxRecDepth 100000 in
theorem w_X7_hashOf_66 (CX : Cx p m c cX7_hashOf 8 s args x0 RX7 meth (some .int)) (hK : va_K D vwCl (ty0 cI cJ cB) s) (hsz : s.heap.size = sz) {K20 : (Nat → Int32) → (Nat → Int64) → Int32 → Int32 → Int32 → Int32 → Option (Int32)} (hK20 : ∀ (y4 : Int32) (y5 : Int32) (y6 : Int32) (y7 : Int32) (H : Heap) (locs : List Loc) (ls : Array Slot), K20 rows row y4 y5 y6 y7 = some z → va_P D vwCl (ws_X7_hashOf cI cJ cB a0 a_kind a_left a_right a_many a_bits a_table a_roots a_moved a_text a_out a_above a_below a_sum a_point a_pointRows a_pointSorts a_rows a_row thrown used rooted size outSize points takenOut great at_ fault open_ wrong by_ sort variable_ pointCount rows row) H → va_D (va_A ws0 sz) (ws_X7_hashOf cI cJ cB a0 a_kind a_left a_right a_many a_bits a_table a_roots a_moved a_text a_out a_above a_below a_sum a_point a_pointRows a_pointSorts a_rows a_row thrown used rooted size outSize points takenOut great at_ fault open_ wrong by_ sort variable_ pointCount rows row) → va_S (va_A ws0 sz) s.heap H locs → lv_has ls 8 [(0, .ref a0), (4, .int y4), (5, .int y5), (6, .int y6), (7, .int y7)] → W p l e rm_X7_hashOf s m args below meth c H locs 0 0 (MQ below (gQ D sz ws0 (ws_X7_hashOf cI cJ cB a0 a_kind a_left a_right a_many a_bits a_table a_roots a_moved a_text a_out a_above a_below a_sum a_point a_pointRows a_pointSorts a_rows a_row thrown used rooted size outSize points takenOut great at_ fault open_ wrong by_ sort variable_ pointCount rows row) (some (.int z))) args s 0 0 (va_A ws0 sz)) (F0 m 20 ls [])) : ∀ (y4 : Int32) (y5 : Int32) (y7 : Int32) (s0 : Int32) (s1 : Int32) (H : Heap) (locs : List Loc) (ls : Array Slot), f_X7_hashOf_66 K20 N rows row y4 y5 y7 s0 s1 = some z → va_P D vwCl (ws_X7_hashOf cI cJ cB a0 a_kind a_left a_right a_many a_bits a_table a_roots a_moved a_text a_out a_above a_below a_sum a_point a_pointRows a_pointSorts a_rows a_row thrown used rooted size outSize points takenOut great at_ fault open_ wrong by_ sort variable_ pointCount rows row) H → va_D (va_A ws0 sz) (ws_X7_hashOf cI cJ cB a0 a_kind a_left a_right a_many a_bits a_table a_roots a_moved a_text a_out a_above a_below a_sum a_point a_pointRows a_pointSorts a_rows a_row thrown used rooted size outSize points takenOut great at_ fault open_ wrong by_ sort variable_ pointCount rows row) → va_S (va_A ws0 sz) s.heap H locs → lv_has ls 8 [(0, .ref a0), (4, .int y4), (5, .int y5), (7, .int y7)] → W p l e rm_X7_hashOf s m args below meth c H locs 0 0 (MQ below (gQ D sz ws0 (ws_X7_hashOf cI cJ cB a0 a_kind a_left a_right a_many a_bits a_table a_roots a_moved a_text a_out a_above a_below a_sum a_point a_pointRows a_pointSorts a_rows a_row thrown used rooted size outSize points takenOut great at_ fault open_ wrong by_ sort variable_ pointCount rows row) (some (.int z))) args s 0 0 (va_A ws0 sz)) (F0 m 66 ls [.int s1, .int s0]) := by
  obtain ⟨F, hr, hlk, hNw⟩ := id CX
  have hx := F.1
  have hb := F.2.1
  have hown := F.2.2.2.1
  have hA : ∀ q, s.heap.size ≤ q → va_A ws0 sz q := fun q hq => Or.inr (hsz ▸ hq)
  intro y4 y5 y7 s0 s1 H locs ls h hP hD hS hl
  unfold f_X7_hashOf_66 at h
  refine lv_iadd hx hb dX7_hashOf_66 ?_
  refine lv_istore (lv' := [(6, .int (s0 + s1)), (0, .ref a0), (4, .int y4), (5, .int y5), (7, .int y7)]) hx hb dX7_hashOf_67 hl (by decide) rfl (fun ls hl => ?_)
  refine lv_iinc (v := y7 + 1) (lv' := [(7, .int (y7 + 1)), (6, .int (s0 + s1)), (0, .ref a0), (4, .int y4), (5, .int y5)]) hx hb dX7_hashOf_69 hl (k := 4) rfl rfl (by decide) rfl (fun ls hl => ?_)
  refine lv_goto (tgt := 20) hx hb dX7_hashOf_72 (by decide) ?_
  exact hK20 y4 y5 (s0 + s1) (y7 + 1) _ _ _ h hP hD hS (lv_sub hl [2, 3, 4, 1, 0] rfl)
set_option maxHeartbeats 4000000 in
set_option maxRecDepth 100000 in
theorem w_X7_hashOf_75 (CX : Cx p m c cX7_hashOf 8 s args x0 RX7 meth (some .int)) (hK : va_K D vwCl (ty0 cI cJ cB) s) (hsz : s.heap.size = sz) : ∀ (y6 : Int32) (H : Heap) (locs : List Loc) (ls : Array Slot), f_X7_hashOf_75 N rows row y6 = some z → va_P D vwCl (ws_X7_hashOf cI cJ cB a0 a_kind a_left a_right a_many a_bits a_table a_roots a_moved a_text a_out a_above a_below a_sum a_point a_pointRows a_pointSorts a_rows a_row thrown used rooted size outSize points takenOut great at_ fault open_ wrong by_ sort variable_ pointCount rows row) H → va_D (va_A ws0 sz) (ws_X7_hashOf cI cJ cB a0 a_kind a_left a_right a_many a_bits a_table a_roots a_moved a_text a_out a_above a_below a_sum a_point a_pointRows a_pointSorts a_rows a_row thrown used rooted size outSize points takenOut great at_ fault open_ wrong by_ sort variable_ pointCount rows row) → va_S (va_A ws0 sz) s.heap H locs → lv_has ls 8 [(6, .int y6)] → W p l e rm_X7_hashOf s m args below meth c H locs 0 0 (MQ below (gQ D sz ws0 (ws_X7_hashOf cI cJ cB a0 a_kind a_left a_right a_many a_bits a_table a_roots a_moved a_text a_out a_above a_below a_sum a_point a_pointRows a_pointSorts a_rows a_row thrown used rooted size outSize points takenOut great at_ fault open_ wrong by_ sort variable_ pointCount rows row) (some (.int z))) args s 0 0 (va_A ws0 sz)) (F0 m 75 ls []) := by
  obtain ⟨F, hr, hlk, hNw⟩ := id CX
  have hx := F.1
  have hb := F.2.1
  have hown := F.2.2.2.1
  have hA : ∀ q, s.heap.size ≤ q → va_A ws0 sz q := fun q hq => Or.inr (hsz ▸ hq)
  intro y6 H locs ls h hP hD hS hl
  unfold f_X7_hashOf_75 at h
  refine lv_iload hx hb dX7_hashOf_75 (lv_at hl 0 rfl) ?_
  refine lv_iload hx hb dX7_hashOf_77 (lv_at hl 0 rfl) ?_
  refine lv_bipush (v := 15) hx hb dX7_hashOf_79 (by decide) ?_
  refine lv_iushr hx hb dX7_hashOf_81 rfl ?_
  refine lv_ixor hx hb dX7_hashOf_82 ?_
  refine lv_istore (lv' := [(6, .int (y6 ^^^ ((y6.toUInt32 >>> ((15 : Int32).toUInt32 &&& Int32.toUInt32 31)).toInt32)))]) hx hb dX7_hashOf_83 hl (by decide) rfl (fun ls hl => ?_)
  refine lv_iload hx hb dX7_hashOf_85 (lv_at hl 0 rfl) ?_
  refine lv_ldc (v := 65535) hx hb hown (F.2.2.2.2 _ (q_in wm_1091)) dX7_hashOf_87 ?_
  refine lv_iand hx hb dX7_hashOf_89 ?_
  obtain rfl := Option.some.inj h
  exact r_ret (v := (y6 ^^^ ((y6.toUInt32 >>> ((15 : Int32).toUInt32 &&& Int32.toUInt32 31)).toInt32)) &&& 65535) F hr hlk rfl dX7_hashOf_90 hsz hP hD hS
set_option maxHeartbeats 4000000 in
set_option maxRecDepth 100000 in
theorem w_X7_hashOf_20 (CX : Cx p m c cX7_hashOf 8 s args x0 RX7 meth (some .int)) (hK : va_K D vwCl (ty0 cI cJ cB) s) (hsz : s.heap.size = sz) : ∀ (n : Nat), ∀ (y4 : Int32) (y5 : Int32) (y6 : Int32) (y7 : Int32) (H : Heap) (locs : List Loc) (ls : Array Slot), f_X7_hashOf_20 N n rows row y4 y5 y6 y7 = some z → va_P D vwCl (ws_X7_hashOf cI cJ cB a0 a_kind a_left a_right a_many a_bits a_table a_roots a_moved a_text a_out a_above a_below a_sum a_point a_pointRows a_pointSorts a_rows a_row thrown used rooted size outSize points takenOut great at_ fault open_ wrong by_ sort variable_ pointCount rows row) H → va_D (va_A ws0 sz) (ws_X7_hashOf cI cJ cB a0 a_kind a_left a_right a_many a_bits a_table a_roots a_moved a_text a_out a_above a_below a_sum a_point a_pointRows a_pointSorts a_rows a_row thrown used rooted size outSize points takenOut great at_ fault open_ wrong by_ sort variable_ pointCount rows row) → va_S (va_A ws0 sz) s.heap H locs → lv_has ls 8 [(0, .ref a0), (4, .int y4), (5, .int y5), (6, .int y6), (7, .int y7)] → W p l e rm_X7_hashOf s m args below meth c H locs 0 0 (MQ below (gQ D sz ws0 (ws_X7_hashOf cI cJ cB a0 a_kind a_left a_right a_many a_bits a_table a_roots a_moved a_text a_out a_above a_below a_sum a_point a_pointRows a_pointSorts a_rows a_row thrown used rooted size outSize points takenOut great at_ fault open_ wrong by_ sort variable_ pointCount rows row) (some (.int z))) args s 0 0 (va_A ws0 sz)) (F0 m 20 ls []) := by
  obtain ⟨F, hr, hlk, hNw⟩ := id CX
  have hx := F.1
  have hb := F.2.1
  have hown := F.2.2.2.1
  have hA : ∀ q, s.heap.size ≤ q → va_A ws0 sz q := fun q hq => Or.inr (hsz ▸ hq)
  intro n
  induction n with
  | zero =>
    intro y4 y5 y6 y7 H locs ls h
    cases h
  | succ n ih =>
    intro y4 y5 y6 y7 H locs ls h hP hD hS hl
    unfold f_X7_hashOf_20 at h
    refine lv_iload hx hb dX7_hashOf_20 (lv_at hl 4 rfl) ?_
    refine lv_bipush (v := 9) hx hb dX7_hashOf_22 (by decide) ?_
    refine lv_icmp_ge (tgt := 75) hx hb dX7_hashOf_24 (by decide) (fun c24 => ?_) (fun c24 => ?_)
    · have h := o_t c24 h
      exact w_X7_hashOf_75 CX hK hsz y6 _ _ _ h hP hD hS (lv_sub hl [3] rfl)
    · have h := o_f c24 h
      refine lv_iload hx hb dX7_hashOf_27 (lv_at hl 1 rfl) ?_
      refine lv_if_eq (tgt := 75) hx hb dX7_hashOf_29 (by decide) (fun c29 => ?_) (fun c29 => ?_)
      · have h := o_t c29 h
        exact w_X7_hashOf_75 CX hK hsz y6 _ _ _ h hP hD hS (lv_sub hl [3] rfl)
      · have h := o_f c29 h
        refine lv_iload hx hb dX7_hashOf_32 (lv_at hl 3 rfl) ?_
        refine lv_ldc (v := 1000003) hx hb hown (F.2.2.2.2 _ (q_in wm_1090)) dX7_hashOf_34 ?_
        refine lv_imul hx hb dX7_hashOf_36 ?_
        refine lv_iload hx hb dX7_hashOf_37 (lv_at hl 2 rfl) ?_
        refine lv_if_ge (tgt := 53) hx hb dX7_hashOf_39 (by decide) (fun c39 => ?_) (fun c39 => ?_)
        · have h := o_t c39 h
          refine lv_aload_n hx hb dX7_hashOf_53 rfl (lv_at hl 0 rfl) ?_
          refine r_get F hK hP 0 6 rfl inW_X7 wm_1098 rfl (by decide) rfl dX7_hashOf_54 ?_
          refine lv_bipush (v := 9) hx hb dX7_hashOf_57 (by decide) ?_
          refine lv_iload hx hb dX7_hashOf_59 (lv_at hl 2 rfl) ?_
          refine lv_imul hx hb dX7_hashOf_61 ?_
          refine lv_iload hx hb dX7_hashOf_62 (lv_at hl 4 rfl) ?_
          refine lv_iadd hx hb dX7_hashOf_64 ?_
          obtain ⟨hi65, h⟩ := o_ix h
          refine va_iald hx hb hK hP 1 0 rfl rfl hi65 dX7_hashOf_65 ?_
          exact w_X7_hashOf_66 CX hK hsz (hK20 := ih) y4 y5 y7 (y6 * 1000003) (rows ((9 * y5) + y7).toNatClampNeg) _ _ _ h hP hD hS (lv_sub hl [0, 1, 2, 4] rfl)
        · have h := o_f c39 h
          refine lv_aload_n hx hb dX7_hashOf_42 rfl (lv_at hl 0 rfl) ?_
          refine r_get F hK hP 0 21 rfl inW_X7 wm_1113 rfl (by decide) rfl dX7_hashOf_43 ?_
          refine lv_iload hx hb dX7_hashOf_46 (lv_at hl 4 rfl) ?_
          obtain ⟨hi48, h⟩ := o_ix h
          refine va_lald hx hb hK hP 2 1 rfl rfl hi48 dX7_hashOf_48 ?_
          refine lv_l2i hx hb dX7_hashOf_49 rfl ?_
          refine lv_goto (tgt := 66) hx hb dX7_hashOf_50 (by decide) ?_
          exact w_X7_hashOf_66 CX hK hsz (hK20 := ih) y4 y5 y7 (y6 * 1000003) ((row y7.toNatClampNeg).toInt32) _ _ _ h hP hD hS (lv_sub hl [0, 1, 2, 4] rfl)
end G_X7_hashOf
set_option maxHeartbeats 4000000 in
set_option maxRecDepth 100000 in
theorem c_X7_hashOf (l : Launch) (D : va_G) (cI cJ cB : ClassId) (a0 a_kind a_left a_right a_many a_bits a_table a_roots a_moved a_text a_out a_above a_below a_sum a_point a_pointRows a_pointSorts a_rows a_row : Nat) (sz : Nat) (thrown : Int32) (used : Int32) (rooted : Int32) (size : Int32) (outSize : Int32) (points : Int32) (takenOut : Int32) (great : Int32) (at_ : Int32) (fault : Int32) (open_ : Int32) (wrong : Int32) (by_ : Int64) (sort : Int32) (variable_ : Int32) (pointCount : Int32) (rows : Nat → Int32) (row : Nat → Int64) (x1 : Int32) (x2 : Int32) (x3 : Int32) (x4 : Int32) (x5 : Int32) (N : Nat) {z : Int32} (h : f_X7_hashOf N rows row x1 x2 x3 x4 x5 = some z) : Mg l yX7_hashOf cX7_hashOf 8 (some .int) rm_X7_hashOf D (ty0 cI cJ cB) [.ref a0, .int x1, .int x2, .int x3, .int x4, .int x5] sz (ws_X7_hashOf cI cJ cB a0 a_kind a_left a_right a_many a_bits a_table a_roots a_moved a_text a_out a_above a_below a_sum a_point a_pointRows a_pointSorts a_rows a_row thrown used rooted size outSize points takenOut great at_ fault open_ wrong by_ sort variable_ pointCount rows row) (some (.int z)) (ws_X7_hashOf cI cJ cB a0 a_kind a_left a_right a_many a_bits a_table a_roots a_moved a_text a_out a_above a_below a_sum a_point a_pointRows a_pointSorts a_rows a_row thrown used rooted size outSize points takenOut great at_ fault open_ wrong by_ sort variable_ pointCount rows row) := by
  refine Mg.of (by decide) (Nat.le_of_ble_eq_true rfl) ?_
  intro p e s m below meth c CX hK hsz hP hD ls hl
  have CX : Cx p m c cX7_hashOf 8 s ([.ref a0, .int x1, .int x2, .int x3, .int x4, .int x5] : List Value).toArray (Cond.code yX7_hashOf cX7_hashOf 8 (some .int)) RX7 meth (some .int) := CX
  obtain ⟨F, hr, hlk, hNw⟩ := id CX
  have hx := F.1
  have hb := F.2.1
  have hown := F.2.2.2.1
  have hl : lv_has ls 8 [(0, .ref a0), (1, .int x1), (2, .int x2), (3, .int x3), (4, .int x4), (5, .int x5)] := hl
  have hS : va_S (va_A (ws_X7_hashOf cI cJ cB a0 a_kind a_left a_right a_many a_bits a_table a_roots a_moved a_text a_out a_above a_below a_sum a_point a_pointRows a_pointSorts a_rows a_row thrown used rooted size outSize points takenOut great at_ fault open_ wrong by_ sort variable_ pointCount rows row) sz) s.heap s.heap [] := va_S.rf
  have hA : ∀ q, s.heap.size ≤ q → va_A (ws_X7_hashOf cI cJ cB a0 a_kind a_left a_right a_many a_bits a_table a_roots a_moved a_text a_out a_above a_below a_sum a_point a_pointRows a_pointSorts a_rows a_row thrown used rooted size outSize points takenOut great at_ fault open_ wrong by_ sort variable_ pointCount rows row) sz q := fun q hq => Or.inr (hsz ▸ hq)
  unfold f_X7_hashOf at h
  refine lv_iload_n hx hb dX7_hashOf_0 rfl (lv_at hl 1 rfl) ?_
  refine lv_bipush (v := 31) hx hb dX7_hashOf_1 (by decide) ?_
  refine lv_imul hx hb dX7_hashOf_3 ?_
  refine lv_iload_n hx hb dX7_hashOf_4 rfl (lv_at hl 2 rfl) ?_
  refine lv_iadd hx hb dX7_hashOf_5 ?_
  refine lv_istore (lv' := [(6, .int ((x1 * 31) + x2)), (0, .ref a0), (1, .int x1), (2, .int x2), (3, .int x3), (4, .int x4), (5, .int x5)]) hx hb dX7_hashOf_6 hl (by decide) rfl (fun ls hl => ?_)
  refine lv_iload hx hb dX7_hashOf_8 (lv_at hl 0 rfl) ?_
  refine lv_ldc (v := 1000003) hx hb hown (F.2.2.2.2 _ (q_in wm_1090)) dX7_hashOf_10 ?_
  refine lv_imul hx hb dX7_hashOf_12 ?_
  refine lv_iload_n hx hb dX7_hashOf_13 rfl (lv_at hl 4 rfl) ?_
  refine lv_iadd hx hb dX7_hashOf_14 ?_
  refine lv_istore (lv' := [(6, .int ((((x1 * 31) + x2) * 1000003) + x3)), (0, .ref a0), (1, .int x1), (2, .int x2), (3, .int x3), (4, .int x4), (5, .int x5)]) hx hb dX7_hashOf_15 hl (by decide) rfl (fun ls hl => ?_)
  refine lv_iconst (v := 0) hx hb dX7_hashOf_17 (by decide) ?_
  refine lv_istore (lv' := [(7, .int 0), (6, .int ((((x1 * 31) + x2) * 1000003) + x3)), (0, .ref a0), (1, .int x1), (2, .int x2), (3, .int x3), (4, .int x4), (5, .int x5)]) hx hb dX7_hashOf_18 hl (by decide) rfl (fun ls hl => ?_)
  exact w_X7_hashOf_20 CX hK hsz N x4 x5 ((((x1 * 31) + x2) * 1000003) + x3) 0 _ _ _ h hP hD hS (lv_sub hl [2, 6, 7, 1, 0] rfl)
section G_X7_place
abbrev ws_X7_place (cI cJ cB : ClassId) (a0 a_roots a_moved a_text a_out a_above a_below a_sum a_point a_pointRows a_pointSorts a_kind a_left a_right a_many a_bits a_rows a_table a_row : Nat) (thrown : Int32) (used : Int32) (rooted : Int32) (size : Int32) (outSize : Int32) (points : Int32) (takenOut : Int32) (great : Int32) (at_ : Int32) (fault : Int32) (open_ : Int32) (wrong : Int32) (by_ : Int64) (sort : Int32) (variable_ : Int32) (pointCount : Int32) (kind : Nat → Int32) (left_ : Nat → Int32) (right_ : Nat → Int32) (many : Nat → Int32) (bits : Nat → Int32) (rows : Nat → Int32) (table : Nat → Int32) (row : Nat → Int64) : va_W := [(a0, .inr (9, [.int thrown, .ref a_kind, .ref a_left, .ref a_right, .ref a_many, .ref a_bits, .ref a_rows, .ref a_table, .int used, .ref a_roots, .int rooted, .ref a_moved, .ref a_text, .int size, .ref a_out, .int outSize, .ref a_above, .ref a_below, .int points, .int takenOut, .int great, .ref a_row, .int at_, .int fault, .int open_, .int wrong, .ref a_sum, .ref a_point, .long by_, .int sort, .int variable_, .ref a_pointRows, .ref a_pointSorts, .int pointCount])), (a_kind, .inl (cI, 24000, .inl kind)), (a_left, .inl (cI, 24000, .inl left_)), (a_right, .inl (cI, 24000, .inl right_)), (a_many, .inl (cI, 24000, .inl many)), (a_bits, .inl (cI, 24000, .inl bits)), (a_rows, .inl (cI, 216000, .inl rows)), (a_table, .inl (cI, 65536, .inl table)), (a_row, .inl (cJ, 9, .inr (.inl row)))]
abbrev rm_X7_place : Room := { frames := 1, cells := 0, slots := 0, locals := 27 }
def f_X7_place_135 (K24 : Int32 → (Nat → Int32) → (Nat → Int32) → (Nat → Int32) → (Nat → Int32) → (Nat → Int32) → (Nat → Int32) → (Nat → Int32) → (Nat → Int64) → Int32 → Int32 → Int32 → Int32 → Int32 → Option (Int32 × (Int32) × (Nat → Int32) × (Nat → Int32) × (Nat → Int32) × (Nat → Int32) × (Nat → Int32) × (Nat → Int32) × (Nat → Int32))) (K88 : Int32 → (Nat → Int32) → (Nat → Int32) → (Nat → Int32) → (Nat → Int32) → (Nat → Int32) → (Nat → Int32) → (Nat → Int32) → (Nat → Int64) → Int32 → Int32 → Int32 → Int32 → Int32 → Int32 → Int32 → Int32 → Option (Int32 × (Int32) × (Nat → Int32) × (Nat → Int32) × (Nat → Int32) × (Nat → Int32) × (Nat → Int32) × (Nat → Int32) × (Nat → Int32))) (N : Nat) (used : Int32) (kind : Nat → Int32) (left_ : Nat → Int32) (right_ : Nat → Int32) (many : Nat → Int32) (bits : Nat → Int32) (rows : Nat → Int32) (table : Nat → Int32) (row : Nat → Int64) (y1 : Int32) (y2 : Int32) (y3 : Int32) (y4 : Int32) (y5 : Int32) (y6 : Int32) (y8 : Int32) (s0 : Int32) : Option (Int32 × (Int32) × (Nat → Int32) × (Nat → Int32) × (Nat → Int32) × (Nat → Int32) × (Nat → Int32) × (Nat → Int32) × (Nat → Int32)) := K88 used kind left_ right_ many bits rows table row y1 y2 y3 y4 y5 y6 s0 (y8 + 1)
def f_X7_place_143 (K24 : Int32 → (Nat → Int32) → (Nat → Int32) → (Nat → Int32) → (Nat → Int32) → (Nat → Int32) → (Nat → Int32) → (Nat → Int32) → (Nat → Int64) → Int32 → Int32 → Int32 → Int32 → Int32 → Option (Int32 × (Int32) × (Nat → Int32) × (Nat → Int32) × (Nat → Int32) × (Nat → Int32) × (Nat → Int32) × (Nat → Int32) × (Nat → Int32))) (N : Nat) (used : Int32) (kind : Nat → Int32) (left_ : Nat → Int32) (right_ : Nat → Int32) (many : Nat → Int32) (bits : Nat → Int32) (rows : Nat → Int32) (table : Nat → Int32) (row : Nat → Int64) (y1 : Int32) (y2 : Int32) (y3 : Int32) (y4 : Int32) (y5 : Int32) (y6 : Int32) (y7 : Int32) : Option (Int32 × (Int32) × (Nat → Int32) × (Nat → Int32) × (Nat → Int32) × (Nat → Int32) × (Nat → Int32) × (Nat → Int32) × (Nat → Int32)) := ifb (y7 = 0) (K24 used kind left_ right_ many bits rows table row y1 y2 y3 y4 ((y5 + 1) &&& 65535)) (some (y6, used, kind, left_, right_, many, bits, rows, table))
def f_X7_place_88 (K24 : Int32 → (Nat → Int32) → (Nat → Int32) → (Nat → Int32) → (Nat → Int32) → (Nat → Int32) → (Nat → Int32) → (Nat → Int32) → (Nat → Int64) → Int32 → Int32 → Int32 → Int32 → Int32 → Option (Int32 × (Int32) × (Nat → Int32) × (Nat → Int32) × (Nat → Int32) × (Nat → Int32) × (Nat → Int32) × (Nat → Int32) × (Nat → Int32))) (N : Nat) : Nat → Int32 → (Nat → Int32) → (Nat → Int32) → (Nat → Int32) → (Nat → Int32) → (Nat → Int32) → (Nat → Int32) → (Nat → Int32) → (Nat → Int64) → Int32 → Int32 → Int32 → Int32 → Int32 → Int32 → Int32 → Int32 → Option (Int32 × (Int32) × (Nat → Int32) × (Nat → Int32) × (Nat → Int32) × (Nat → Int32) × (Nat → Int32) × (Nat → Int32) × (Nat → Int32))
  | 0 => fun _ _ _ _ _ _ _ _ _ _ _ _ _ _ _ _ _ => none
  | n + 1 => fun used kind left_ right_ many bits rows table row y1 y2 y3 y4 y5 y6 y7 y8 => ifb (9 ≤ y8) (f_X7_place_143 K24 N used kind left_ right_ many bits rows table row y1 y2 y3 y4 y5 y6 y7) (ifb (y4 = 0) (f_X7_place_143 K24 N used kind left_ right_ many bits rows table row y1 y2 y3 y4 y5 y6 y7) (ifb (y7 = 0) (f_X7_place_143 K24 N used kind left_ right_ many bits rows table row y1 y2 y3 y4 y5 y6 y7) (ix ((9 * y6) + y8) 216000 (ix y8 9 (ifb ((lg_cmp ((rows ((9 * y6) + y8).toNatClampNeg).toInt64) (row y8.toNatClampNeg)) = 0) (f_X7_place_135 K24 (f_X7_place_88 K24 N n) N used kind left_ right_ many bits rows table row y1 y2 y3 y4 y5 y6 y8 1) (f_X7_place_135 K24 (f_X7_place_88 K24 N n) N used kind left_ right_ many bits rows table row y1 y2 y3 y4 y5 y6 y8 0))))))
def f_X7_place_83 (K24 : Int32 → (Nat → Int32) → (Nat → Int32) → (Nat → Int32) → (Nat → Int32) → (Nat → Int32) → (Nat → Int32) → (Nat → Int32) → (Nat → Int64) → Int32 → Int32 → Int32 → Int32 → Int32 → Option (Int32 × (Int32) × (Nat → Int32) × (Nat → Int32) × (Nat → Int32) × (Nat → Int32) × (Nat → Int32) × (Nat → Int32) × (Nat → Int32))) (N : Nat) (used : Int32) (kind : Nat → Int32) (left_ : Nat → Int32) (right_ : Nat → Int32) (many : Nat → Int32) (bits : Nat → Int32) (rows : Nat → Int32) (table : Nat → Int32) (row : Nat → Int64) (y1 : Int32) (y2 : Int32) (y3 : Int32) (y4 : Int32) (y5 : Int32) (y6 : Int32) (s0 : Int32) : Option (Int32 × (Int32) × (Nat → Int32) × (Nat → Int32) × (Nat → Int32) × (Nat → Int32) × (Nat → Int32) × (Nat → Int32) × (Nat → Int32)) := f_X7_place_88 K24 N N used kind left_ right_ many bits rows table row y1 y2 y3 y4 y5 y6 s0 0
def f_X7_place_82 (K24 : Int32 → (Nat → Int32) → (Nat → Int32) → (Nat → Int32) → (Nat → Int32) → (Nat → Int32) → (Nat → Int32) → (Nat → Int32) → (Nat → Int64) → Int32 → Int32 → Int32 → Int32 → Int32 → Option (Int32 × (Int32) × (Nat → Int32) × (Nat → Int32) × (Nat → Int32) × (Nat → Int32) × (Nat → Int32) × (Nat → Int32) × (Nat → Int32))) (N : Nat) (used : Int32) (kind : Nat → Int32) (left_ : Nat → Int32) (right_ : Nat → Int32) (many : Nat → Int32) (bits : Nat → Int32) (rows : Nat → Int32) (table : Nat → Int32) (row : Nat → Int64) (y1 : Int32) (y2 : Int32) (y3 : Int32) (y4 : Int32) (y5 : Int32) (y6 : Int32) : Option (Int32 × (Int32) × (Nat → Int32) × (Nat → Int32) × (Nat → Int32) × (Nat → Int32) × (Nat → Int32) × (Nat → Int32) × (Nat → Int32)) := f_X7_place_83 K24 N used kind left_ right_ many bits rows table row y1 y2 y3 y4 y5 y6 0
def f_X7_place_389 (K321 : Int32 → (Nat → Int32) → (Nat → Int32) → (Nat → Int32) → (Nat → Int32) → (Nat → Int32) → (Nat → Int32) → (Nat → Int32) → (Nat → Int64) → Int32 → Int32 → Int32 → Option (Int32 × (Int32) × (Nat → Int32) × (Nat → Int32) × (Nat → Int32) × (Nat → Int32) × (Nat → Int32) × (Nat → Int32) × (Nat → Int32))) (N : Nat) (used : Int32) (kind : Nat → Int32) (left_ : Nat → Int32) (right_ : Nat → Int32) (many : Nat → Int32) (bits : Nat → Int32) (rows : Nat → Int32) (table : Nat → Int32) (row : Nat → Int64) (y4 : Int32) (y6 : Int32) (y7 : Int32) (s1 : Int32) (s2 : Int32) (s3 : Int32) : Option (Int32 × (Int32) × (Nat → Int32) × (Nat → Int32) × (Nat → Int32) × (Nat → Int32) × (Nat → Int32) × (Nat → Int32) × (Nat → Int32)) := ix s1 24000 (K321 used kind left_ right_ many (upd bits s1.toNatClampNeg (s2 ||| s3)) rows table row y4 y6 (y7 + 1))
def f_X7_place_388 (K321 : Int32 → (Nat → Int32) → (Nat → Int32) → (Nat → Int32) → (Nat → Int32) → (Nat → Int32) → (Nat → Int32) → (Nat → Int32) → (Nat → Int64) → Int32 → Int32 → Int32 → Option (Int32 × (Int32) × (Nat → Int32) × (Nat → Int32) × (Nat → Int32) × (Nat → Int32) × (Nat → Int32) × (Nat → Int32) × (Nat → Int32))) (N : Nat) (used : Int32) (kind : Nat → Int32) (left_ : Nat → Int32) (right_ : Nat → Int32) (many : Nat → Int32) (bits : Nat → Int32) (rows : Nat → Int32) (table : Nat → Int32) (row : Nat → Int64) (y4 : Int32) (y6 : Int32) (y7 : Int32) (s1 : Int32) (s2 : Int32) : Option (Int32 × (Int32) × (Nat → Int32) × (Nat → Int32) × (Nat → Int32) × (Nat → Int32) × (Nat → Int32) × (Nat → Int32) × (Nat → Int32)) := f_X7_place_389 K321 N used kind left_ right_ many bits rows table row y4 y6 y7 s1 s2 0
def f_X7_place_397 (N : Nat) (used : Int32) (kind : Nat → Int32) (left_ : Nat → Int32) (right_ : Nat → Int32) (many : Nat → Int32) (bits : Nat → Int32) (rows : Nat → Int32) (table : Nat → Int32) (row : Nat → Int64) (y6 : Int32) : Option (Int32 × (Int32) × (Nat → Int32) × (Nat → Int32) × (Nat → Int32) × (Nat → Int32) × (Nat → Int32) × (Nat → Int32) × (Nat → Int32)) := some (y6, used, kind, left_, right_, many, bits, rows, table)
def f_X7_place_321 (N : Nat) : Nat → Int32 → (Nat → Int32) → (Nat → Int32) → (Nat → Int32) → (Nat → Int32) → (Nat → Int32) → (Nat → Int32) → (Nat → Int32) → (Nat → Int64) → Int32 → Int32 → Int32 → Option (Int32 × (Int32) × (Nat → Int32) × (Nat → Int32) × (Nat → Int32) × (Nat → Int32) × (Nat → Int32) × (Nat → Int32) × (Nat → Int32))
  | 0 => fun _ _ _ _ _ _ _ _ _ _ _ _ => none
  | n + 1 => fun used kind left_ right_ many bits rows table row y4 y6 y7 => ifb (9 ≤ y7) (f_X7_place_397 N used kind left_ right_ many bits rows table row y6) (ifb (y4 = 0) (f_X7_place_397 N used kind left_ right_ many bits rows table row y6) (ix y7 9 (ix ((9 * y6) + y7) 216000 (ix y6 24000 (ifb (8 ≤ y7) (f_X7_place_388 (f_X7_place_321 N n) N used kind left_ right_ many bits (upd rows ((9 * y6) + y7).toNatClampNeg ((row y7.toNatClampNeg).toInt32)) table row y4 y6 y7 y6 (bits y6.toNatClampNeg)) (ix y7 9 (ifb ((lg_cmp (row y7.toNatClampNeg) 0) = 0) (f_X7_place_388 (f_X7_place_321 N n) N used kind left_ right_ many bits (upd rows ((9 * y6) + y7).toNatClampNeg ((row y7.toNatClampNeg).toInt32)) table row y4 y6 y7 y6 (bits y6.toNatClampNeg)) (f_X7_place_389 (f_X7_place_321 N n) N used kind left_ right_ many bits (upd rows ((9 * y6) + y7).toNatClampNeg ((row y7.toNatClampNeg).toInt32)) table row y4 y6 y7 y6 (bits y6.toNatClampNeg) (1 <<< (y7 &&& 31))))))))))
def f_X7_place_317 (N : Nat) (used : Int32) (kind : Nat → Int32) (left_ : Nat → Int32) (right_ : Nat → Int32) (many : Nat → Int32) (bits : Nat → Int32) (rows : Nat → Int32) (table : Nat → Int32) (row : Nat → Int64) (y4 : Int32) (y6 : Int32) (s1 : Int32) (s2 : Int32) : Option (Int32 × (Int32) × (Nat → Int32) × (Nat → Int32) × (Nat → Int32) × (Nat → Int32) × (Nat → Int32) × (Nat → Int32) × (Nat → Int32)) := ix s1 24000 (f_X7_place_321 N N used kind left_ right_ many (upd bits s1.toNatClampNeg s2) rows table row y4 y6 0)
def f_X7_place_280 (N : Nat) (used : Int32) (kind : Nat → Int32) (left_ : Nat → Int32) (right_ : Nat → Int32) (many : Nat → Int32) (bits : Nat → Int32) (rows : Nat → Int32) (table : Nat → Int32) (row : Nat → Int64) (y2 : Int32) (y3 : Int32) (y4 : Int32) (y6 : Int32) (s1 : Int32) : Option (Int32 × (Int32) × (Nat → Int32) × (Nat → Int32) × (Nat → Int32) × (Nat → Int32) × (Nat → Int32) × (Nat → Int32) × (Nat → Int32)) := ix y2 24000 (ix y3 24000 (f_X7_place_317 N used kind left_ right_ many bits rows table row y4 y6 s1 ((bits y2.toNatClampNeg) ||| (bits y3.toNatClampNeg))))
def f_X7_place_262 (N : Nat) (used : Int32) (kind : Nat → Int32) (left_ : Nat → Int32) (right_ : Nat → Int32) (many : Nat → Int32) (bits : Nat → Int32) (rows : Nat → Int32) (table : Nat → Int32) (row : Nat → Int64) (y1 : Int32) (y2 : Int32) (y3 : Int32) (y4 : Int32) (y6 : Int32) (s1 : Int32) (s2 : Int32) (s3 : Int32) : Option (Int32 × (Int32) × (Nat → Int32) × (Nat → Int32) × (Nat → Int32) × (Nat → Int32) × (Nat → Int32) × (Nat → Int32) × (Nat → Int32)) := ix s1 24000 (ifb (y1 = 3) (f_X7_place_280 N used kind left_ right_ (upd many s1.toNatClampNeg (s2 + s3)) bits rows table row y2 y3 y4 y6 y6) (ifb (y1 = 4) (f_X7_place_280 N used kind left_ right_ (upd many s1.toNatClampNeg (s2 + s3)) bits rows table row y2 y3 y4 y6 y6) (ifb (y1 < 5) (f_X7_place_317 N used kind left_ right_ (upd many s1.toNatClampNeg (s2 + s3)) bits rows table row y4 y6 y6 0) (ix y3 24000 (f_X7_place_317 N used kind left_ right_ (upd many s1.toNatClampNeg (s2 + s3)) bits rows table row y4 y6 y6 ((bits y3.toNatClampNeg) &&& ((1 <<< (y2 &&& 31)) ^^^ (-1))))))))
def f_X7_place_231 (N : Nat) (used : Int32) (kind : Nat → Int32) (left_ : Nat → Int32) (right_ : Nat → Int32) (many : Nat → Int32) (bits : Nat → Int32) (rows : Nat → Int32) (table : Nat → Int32) (row : Nat → Int64) (y1 : Int32) (y2 : Int32) (y3 : Int32) (y4 : Int32) (y6 : Int32) (s1 : Int32) (s2 : Int32) : Option (Int32 × (Int32) × (Nat → Int32) × (Nat → Int32) × (Nat → Int32) × (Nat → Int32) × (Nat → Int32) × (Nat → Int32) × (Nat → Int32)) := ix y2 24000 (ix y3 24000 (f_X7_place_262 N used kind left_ right_ many bits rows table row y1 y2 y3 y4 y6 s1 s2 ((many y2.toNatClampNeg) + (many y3.toNatClampNeg))))
def f_X7_place_24 (N : Nat) : Nat → Int32 → (Nat → Int32) → (Nat → Int32) → (Nat → Int32) → (Nat → Int32) → (Nat → Int32) → (Nat → Int32) → (Nat → Int32) → (Nat → Int64) → Int32 → Int32 → Int32 → Int32 → Int32 → Option (Int32 × (Int32) × (Nat → Int32) × (Nat → Int32) × (Nat → Int32) × (Nat → Int32) × (Nat → Int32) × (Nat → Int32) × (Nat → Int32))
  | 0 => fun _ _ _ _ _ _ _ _ _ _ _ _ _ _ => none
  | n + 1 => fun used kind left_ right_ many bits rows table row y1 y2 y3 y4 y5 => ix y5 65536 (ifb ((table y5.toNatClampNeg) ≤ 0) (ix y5 65536 (ix used 24000 (ix used 24000 (ix used 24000 (ifb (y1 = 3) (f_X7_place_231 N (used + 1) (upd kind used.toNatClampNeg y1) (upd left_ used.toNatClampNeg y2) (upd right_ used.toNatClampNeg y3) many bits rows (upd table y5.toNatClampNeg (used + 1)) row y1 y2 y3 y4 used used 1) (ifb (y1 = 4) (f_X7_place_231 N (used + 1) (upd kind used.toNatClampNeg y1) (upd left_ used.toNatClampNeg y2) (upd right_ used.toNatClampNeg y3) many bits rows (upd table y5.toNatClampNeg (used + 1)) row y1 y2 y3 y4 used used 1) (ifb (y1 < 5) (f_X7_place_262 N (used + 1) (upd kind used.toNatClampNeg y1) (upd left_ used.toNatClampNeg y2) (upd right_ used.toNatClampNeg y3) many bits rows (upd table y5.toNatClampNeg (used + 1)) row y1 y2 y3 y4 used used 1 0) (ix y3 24000 (f_X7_place_262 N (used + 1) (upd kind used.toNatClampNeg y1) (upd left_ used.toNatClampNeg y2) (upd right_ used.toNatClampNeg y3) many bits rows (upd table y5.toNatClampNeg (used + 1)) row y1 y2 y3 y4 used used 1 (many y3.toNatClampNeg)))))))))) (ix y5 65536 (ix ((table y5.toNatClampNeg) - 1) 24000 (ifb ((kind ((table y5.toNatClampNeg) - 1).toNatClampNeg) = y1) (ix ((table y5.toNatClampNeg) - 1) 24000 (ifb ((left_ ((table y5.toNatClampNeg) - 1).toNatClampNeg) = y2) (ix ((table y5.toNatClampNeg) - 1) 24000 (ifb ((right_ ((table y5.toNatClampNeg) - 1).toNatClampNeg) = y3) (f_X7_place_83 (f_X7_place_24 N n) N used kind left_ right_ many bits rows table row y1 y2 y3 y4 y5 ((table y5.toNatClampNeg) - 1) 1) (f_X7_place_82 (f_X7_place_24 N n) N used kind left_ right_ many bits rows table row y1 y2 y3 y4 y5 ((table y5.toNatClampNeg) - 1)))) (f_X7_place_82 (f_X7_place_24 N n) N used kind left_ right_ many bits rows table row y1 y2 y3 y4 y5 ((table y5.toNatClampNeg) - 1)))) (f_X7_place_82 (f_X7_place_24 N n) N used kind left_ right_ many bits rows table row y1 y2 y3 y4 y5 ((table y5.toNatClampNeg) - 1))))))
def f_X7_place_10 (N : Nat) (used : Int32) (kind : Nat → Int32) (left_ : Nat → Int32) (right_ : Nat → Int32) (many : Nat → Int32) (bits : Nat → Int32) (rows : Nat → Int32) (table : Nat → Int32) (row : Nat → Int64) (y1 : Int32) (y2 : Int32) (y3 : Int32) (s0 : Int32) : Option (Int32 × (Int32) × (Nat → Int32) × (Nat → Int32) × (Nat → Int32) × (Nat → Int32) × (Nat → Int32) × (Nat → Int32) × (Nat → Int32)) := (f_X7_hashOf N rows row y1 y2 y3 s0 (-1)).bind (fun z19 => f_X7_place_24 N N used kind left_ right_ many bits rows table row y1 y2 y3 s0 z19)
def f_X7_place (N : Nat) (used : Int32) (kind : Nat → Int32) (left_ : Nat → Int32) (right_ : Nat → Int32) (many : Nat → Int32) (bits : Nat → Int32) (rows : Nat → Int32) (table : Nat → Int32) (row : Nat → Int64) (x1 : Int32) (x2 : Int32) (x3 : Int32) : Option (Int32 × (Int32) × (Nat → Int32) × (Nat → Int32) × (Nat → Int32) × (Nat → Int32) × (Nat → Int32) × (Nat → Int32) × (Nat → Int32)) := ifb (x1 = 2) (f_X7_place_10 N used kind left_ right_ many bits rows table row x1 x2 x3 1) (f_X7_place_10 N used kind left_ right_ many bits rows table row x1 x2 x3 0)
variable {p : Program} {l : Launch} {e : Env} {s : State} {m : MethodId} {below : List Frame} {meth : Method} {c : Code} {args : Array Value} {x0 : Cond} {D : va_G} {cI cJ cB : ClassId} {sz N : Nat} {ws0 : va_W} {a0 a_roots a_moved a_text a_out a_above a_below a_sum a_point a_pointRows a_pointSorts a_kind a_left a_right a_many a_bits a_rows a_table a_row : Nat} {thrown : Int32} {rooted : Int32} {size : Int32} {outSize : Int32} {points : Int32} {takenOut : Int32} {great : Int32} {at_ : Int32} {fault : Int32} {open_ : Int32} {wrong : Int32} {by_ : Int64} {sort : Int32} {variable_ : Int32} {pointCount : Int32} {row : Nat → Int64} {z : Int32 × (Int32) × (Nat → Int32) × (Nat → Int32) × (Nat → Int32) × (Nat → Int32) × (Nat → Int32) × (Nat → Int32) × (Nat → Int32)}
set_option maxHeartbeats 4000000 in
set_option maxRecDepth 100000 in
theorem w_X7_place_135 (CX : Cx p m c cX7_place 9 s args x0 RX7 meth (some .int)) (hK : va_K D vwCl (ty0 cI cJ cB) s) (hsz : s.heap.size = sz) {K24 : Int32 → (Nat → Int32) → (Nat → Int32) → (Nat → Int32) → (Nat → Int32) → (Nat → Int32) → (Nat → Int32) → (Nat → Int32) → (Nat → Int64) → Int32 → Int32 → Int32 → Int32 → Int32 → Option (Int32 × (Int32) × (Nat → Int32) × (Nat → Int32) × (Nat → Int32) × (Nat → Int32) × (Nat → Int32) × (Nat → Int32) × (Nat → Int32))} (hK24 : ∀ (used : Int32) (kind : Nat → Int32) (left_ : Nat → Int32) (right_ : Nat → Int32) (many : Nat → Int32) (bits : Nat → Int32) (rows : Nat → Int32) (table : Nat → Int32) (y1 : Int32) (y2 : Int32) (y3 : Int32) (y4 : Int32) (y5 : Int32) (H : Heap) (locs : List Loc) (ls : Array Slot), K24 used kind left_ right_ many bits rows table row y1 y2 y3 y4 y5 = some z → va_P D vwCl (ws_X7_place cI cJ cB a0 a_roots a_moved a_text a_out a_above a_below a_sum a_point a_pointRows a_pointSorts a_kind a_left a_right a_many a_bits a_rows a_table a_row thrown used rooted size outSize points takenOut great at_ fault open_ wrong by_ sort variable_ pointCount kind left_ right_ many bits rows table row) H → va_D (va_A ws0 sz) (ws_X7_place cI cJ cB a0 a_roots a_moved a_text a_out a_above a_below a_sum a_point a_pointRows a_pointSorts a_kind a_left a_right a_many a_bits a_rows a_table a_row thrown used rooted size outSize points takenOut great at_ fault open_ wrong by_ sort variable_ pointCount kind left_ right_ many bits rows table row) → va_S (va_A ws0 sz) s.heap H locs → lv_has ls 9 [(0, .ref a0), (1, .int y1), (2, .int y2), (3, .int y3), (4, .int y4), (5, .int y5)] → W p l e rm_X7_place s m args below meth c H locs 0 0 (MQ below (gQ D sz ws0 (ws_X7_place cI cJ cB a0 a_roots a_moved a_text a_out a_above a_below a_sum a_point a_pointRows a_pointSorts a_kind a_left a_right a_many a_bits a_rows a_table a_row thrown z.2.1 rooted size outSize points takenOut great at_ fault open_ wrong by_ sort variable_ pointCount z.2.2.1 z.2.2.2.1 z.2.2.2.2.1 z.2.2.2.2.2.1 z.2.2.2.2.2.2.1 z.2.2.2.2.2.2.2.1 z.2.2.2.2.2.2.2.2 row) (some (.int z.1))) args s 0 0 (va_A ws0 sz)) (F0 m 24 ls [])) {K88 : Int32 → (Nat → Int32) → (Nat → Int32) → (Nat → Int32) → (Nat → Int32) → (Nat → Int32) → (Nat → Int32) → (Nat → Int32) → (Nat → Int64) → Int32 → Int32 → Int32 → Int32 → Int32 → Int32 → Int32 → Int32 → Option (Int32 × (Int32) × (Nat → Int32) × (Nat → Int32) × (Nat → Int32) × (Nat → Int32) × (Nat → Int32) × (Nat → Int32) × (Nat → Int32))} (hK88 : ∀ (used : Int32) (kind : Nat → Int32) (left_ : Nat → Int32) (right_ : Nat → Int32) (many : Nat → Int32) (bits : Nat → Int32) (rows : Nat → Int32) (table : Nat → Int32) (y1 : Int32) (y2 : Int32) (y3 : Int32) (y4 : Int32) (y5 : Int32) (y6 : Int32) (y7 : Int32) (y8 : Int32) (H : Heap) (locs : List Loc) (ls : Array Slot), K88 used kind left_ right_ many bits rows table row y1 y2 y3 y4 y5 y6 y7 y8 = some z → va_P D vwCl (ws_X7_place cI cJ cB a0 a_roots a_moved a_text a_out a_above a_below a_sum a_point a_pointRows a_pointSorts a_kind a_left a_right a_many a_bits a_rows a_table a_row thrown used rooted size outSize points takenOut great at_ fault open_ wrong by_ sort variable_ pointCount kind left_ right_ many bits rows table row) H → va_D (va_A ws0 sz) (ws_X7_place cI cJ cB a0 a_roots a_moved a_text a_out a_above a_below a_sum a_point a_pointRows a_pointSorts a_kind a_left a_right a_many a_bits a_rows a_table a_row thrown used rooted size outSize points takenOut great at_ fault open_ wrong by_ sort variable_ pointCount kind left_ right_ many bits rows table row) → va_S (va_A ws0 sz) s.heap H locs → lv_has ls 9 [(0, .ref a0), (1, .int y1), (2, .int y2), (3, .int y3), (4, .int y4), (5, .int y5), (6, .int y6), (7, .int y7), (8, .int y8)] → W p l e rm_X7_place s m args below meth c H locs 0 0 (MQ below (gQ D sz ws0 (ws_X7_place cI cJ cB a0 a_roots a_moved a_text a_out a_above a_below a_sum a_point a_pointRows a_pointSorts a_kind a_left a_right a_many a_bits a_rows a_table a_row thrown z.2.1 rooted size outSize points takenOut great at_ fault open_ wrong by_ sort variable_ pointCount z.2.2.1 z.2.2.2.1 z.2.2.2.2.1 z.2.2.2.2.2.1 z.2.2.2.2.2.2.1 z.2.2.2.2.2.2.2.1 z.2.2.2.2.2.2.2.2 row) (some (.int z.1))) args s 0 0 (va_A ws0 sz)) (F0 m 88 ls [])) : ∀ (used : Int32) (kind : Nat → Int32) (left_ : Nat → Int32) (right_ : Nat → Int32) (many : Nat → Int32) (bits : Nat → Int32) (rows : Nat → Int32) (table : Nat → Int32) (y1 : Int32) (y2 : Int32) (y3 : Int32) (y4 : Int32) (y5 : Int32) (y6 : Int32) (y8 : Int32) (s0 : Int32) (H : Heap) (locs : List Loc) (ls : Array Slot), f_X7_place_135 K24 K88 N used kind left_ right_ many bits rows table row y1 y2 y3 y4 y5 y6 y8 s0 = some z → va_P D vwCl (ws_X7_place cI cJ cB a0 a_roots a_moved a_text a_out a_above a_below a_sum a_point a_pointRows a_pointSorts a_kind a_left a_right a_many a_bits a_rows a_table a_row thrown used rooted size outSize points takenOut great at_ fault open_ wrong by_ sort variable_ pointCount kind left_ right_ many bits rows table row) H → va_D (va_A ws0 sz) (ws_X7_place cI cJ cB a0 a_roots a_moved a_text a_out a_above a_below a_sum a_point a_pointRows a_pointSorts a_kind a_left a_right a_many a_bits a_rows a_table a_row thrown used rooted size outSize points takenOut great at_ fault open_ wrong by_ sort variable_ pointCount kind left_ right_ many bits rows table row) → va_S (va_A ws0 sz) s.heap H locs → lv_has ls 9 [(0, .ref a0), (1, .int y1), (2, .int y2), (3, .int y3), (4, .int y4), (5, .int y5), (6, .int y6), (8, .int y8)] → W p l e rm_X7_place s m args below meth c H locs 0 0 (MQ below (gQ D sz ws0 (ws_X7_place cI cJ cB a0 a_roots a_moved a_text a_out a_above a_below a_sum a_point a_pointRows a_pointSorts a_kind a_left a_right a_many a_bits a_rows a_table a_row thrown z.2.1 rooted size outSize points takenOut great at_ fault open_ wrong by_ sort variable_ pointCount z.2.2.1 z.2.2.2.1 z.2.2.2.2.1 z.2.2.2.2.2.1 z.2.2.2.2.2.2.1 z.2.2.2.2.2.2.2.1 z.2.2.2.2.2.2.2.2 row) (some (.int z.1))) args s 0 0 (va_A ws0 sz)) (F0 m 135 ls [.int s0]) := by
  obtain ⟨F, hr, hlk, hNw⟩ := id CX
  have hx := F.1
  have hb := F.2.1
  have hown := F.2.2.2.1
  have hA : ∀ q, s.heap.size ≤ q → va_A ws0 sz q := fun q hq => Or.inr (hsz ▸ hq)
  intro used kind left_ right_ many bits rows table y1 y2 y3 y4 y5 y6 y8 s0 H locs ls h hP hD hS hl
  unfold f_X7_place_135 at h
  refine lv_istore (lv' := [(7, .int s0), (0, .ref a0), (1, .int y1), (2, .int y2), (3, .int y3), (4, .int y4), (5, .int y5), (6, .int y6), (8, .int y8)]) hx hb dX7_place_135 hl (by decide) rfl (fun ls hl => ?_)
  refine lv_iinc (v := y8 + 1) (lv' := [(8, .int (y8 + 1)), (7, .int s0), (0, .ref a0), (1, .int y1), (2, .int y2), (3, .int y3), (4, .int y4), (5, .int y5), (6, .int y6)]) hx hb dX7_place_137 hl (k := 8) rfl rfl (by decide) rfl (fun ls hl => ?_)
  refine lv_goto (tgt := 88) hx hb dX7_place_140 (by decide) ?_
  exact hK88 used kind left_ right_ many bits rows table y1 y2 y3 y4 y5 y6 s0 (y8 + 1) _ _ _ h hP hD hS (lv_sub hl [2, 3, 4, 5, 6, 7, 8, 1, 0] rfl)
set_option maxHeartbeats 4000000 in
set_option maxRecDepth 100000 in
theorem w_X7_place_143 (CX : Cx p m c cX7_place 9 s args x0 RX7 meth (some .int)) (hK : va_K D vwCl (ty0 cI cJ cB) s) (hsz : s.heap.size = sz) {K24 : Int32 → (Nat → Int32) → (Nat → Int32) → (Nat → Int32) → (Nat → Int32) → (Nat → Int32) → (Nat → Int32) → (Nat → Int32) → (Nat → Int64) → Int32 → Int32 → Int32 → Int32 → Int32 → Option (Int32 × (Int32) × (Nat → Int32) × (Nat → Int32) × (Nat → Int32) × (Nat → Int32) × (Nat → Int32) × (Nat → Int32) × (Nat → Int32))} (hK24 : ∀ (used : Int32) (kind : Nat → Int32) (left_ : Nat → Int32) (right_ : Nat → Int32) (many : Nat → Int32) (bits : Nat → Int32) (rows : Nat → Int32) (table : Nat → Int32) (y1 : Int32) (y2 : Int32) (y3 : Int32) (y4 : Int32) (y5 : Int32) (H : Heap) (locs : List Loc) (ls : Array Slot), K24 used kind left_ right_ many bits rows table row y1 y2 y3 y4 y5 = some z → va_P D vwCl (ws_X7_place cI cJ cB a0 a_roots a_moved a_text a_out a_above a_below a_sum a_point a_pointRows a_pointSorts a_kind a_left a_right a_many a_bits a_rows a_table a_row thrown used rooted size outSize points takenOut great at_ fault open_ wrong by_ sort variable_ pointCount kind left_ right_ many bits rows table row) H → va_D (va_A ws0 sz) (ws_X7_place cI cJ cB a0 a_roots a_moved a_text a_out a_above a_below a_sum a_point a_pointRows a_pointSorts a_kind a_left a_right a_many a_bits a_rows a_table a_row thrown used rooted size outSize points takenOut great at_ fault open_ wrong by_ sort variable_ pointCount kind left_ right_ many bits rows table row) → va_S (va_A ws0 sz) s.heap H locs → lv_has ls 9 [(0, .ref a0), (1, .int y1), (2, .int y2), (3, .int y3), (4, .int y4), (5, .int y5)] → W p l e rm_X7_place s m args below meth c H locs 0 0 (MQ below (gQ D sz ws0 (ws_X7_place cI cJ cB a0 a_roots a_moved a_text a_out a_above a_below a_sum a_point a_pointRows a_pointSorts a_kind a_left a_right a_many a_bits a_rows a_table a_row thrown z.2.1 rooted size outSize points takenOut great at_ fault open_ wrong by_ sort variable_ pointCount z.2.2.1 z.2.2.2.1 z.2.2.2.2.1 z.2.2.2.2.2.1 z.2.2.2.2.2.2.1 z.2.2.2.2.2.2.2.1 z.2.2.2.2.2.2.2.2 row) (some (.int z.1))) args s 0 0 (va_A ws0 sz)) (F0 m 24 ls [])) : ∀ (used : Int32) (kind : Nat → Int32) (left_ : Nat → Int32) (right_ : Nat → Int32) (many : Nat → Int32) (bits : Nat → Int32) (rows : Nat → Int32) (table : Nat → Int32) (y1 : Int32) (y2 : Int32) (y3 : Int32) (y4 : Int32) (y5 : Int32) (y6 : Int32) (y7 : Int32) (H : Heap) (locs : List Loc) (ls : Array Slot), f_X7_place_143 K24 N used kind left_ right_ many bits rows table row y1 y2 y3 y4 y5 y6 y7 = some z → va_P D vwCl (ws_X7_place cI cJ cB a0 a_roots a_moved a_text a_out a_above a_below a_sum a_point a_pointRows a_pointSorts a_kind a_left a_right a_many a_bits a_rows a_table a_row thrown used rooted size outSize points takenOut great at_ fault open_ wrong by_ sort variable_ pointCount kind left_ right_ many bits rows table row) H → va_D (va_A ws0 sz) (ws_X7_place cI cJ cB a0 a_roots a_moved a_text a_out a_above a_below a_sum a_point a_pointRows a_pointSorts a_kind a_left a_right a_many a_bits a_rows a_table a_row thrown used rooted size outSize points takenOut great at_ fault open_ wrong by_ sort variable_ pointCount kind left_ right_ many bits rows table row) → va_S (va_A ws0 sz) s.heap H locs → lv_has ls 9 [(0, .ref a0), (1, .int y1), (2, .int y2), (3, .int y3), (4, .int y4), (5, .int y5), (6, .int y6), (7, .int y7)] → W p l e rm_X7_place s m args below meth c H locs 0 0 (MQ below (gQ D sz ws0 (ws_X7_place cI cJ cB a0 a_roots a_moved a_text a_out a_above a_below a_sum a_point a_pointRows a_pointSorts a_kind a_left a_right a_many a_bits a_rows a_table a_row thrown z.2.1 rooted size outSize points takenOut great at_ fault open_ wrong by_ sort variable_ pointCount z.2.2.1 z.2.2.2.1 z.2.2.2.2.1 z.2.2.2.2.2.1 z.2.2.2.2.2.2.1 z.2.2.2.2.2.2.2.1 z.2.2.2.2.2.2.2.2 row) (some (.int z.1))) args s 0 0 (va_A ws0 sz)) (F0 m 143 ls []) := by
  obtain ⟨F, hr, hlk, hNw⟩ := id CX
  have hx := F.1
  have hb := F.2.1
  have hown := F.2.2.2.1
  have hA : ∀ q, s.heap.size ≤ q → va_A ws0 sz q := fun q hq => Or.inr (hsz ▸ hq)
  intro used kind left_ right_ many bits rows table y1 y2 y3 y4 y5 y6 y7 H locs ls h hP hD hS hl
  unfold f_X7_place_143 at h
  refine lv_iload hx hb dX7_place_143 (lv_at hl 7 rfl) ?_
  refine lv_if_eq (tgt := 151) hx hb dX7_place_145 (by decide) (fun c145 => ?_) (fun c145 => ?_)
  · have h := o_t c145 h
    refine lv_iload hx hb dX7_place_151 (lv_at hl 5 rfl) ?_
    refine lv_iconst (v := 1) hx hb dX7_place_153 (by decide) ?_
    refine lv_iadd hx hb dX7_place_154 ?_
    refine lv_ldc (v := 65535) hx hb hown (F.2.2.2.2 _ (q_in wm_1091)) dX7_place_155 ?_
    refine lv_iand hx hb dX7_place_157 ?_
    refine lv_istore (lv' := [(5, .int ((y5 + 1) &&& 65535)), (0, .ref a0), (1, .int y1), (2, .int y2), (3, .int y3), (4, .int y4), (6, .int y6), (7, .int y7)]) hx hb dX7_place_158 hl (by decide) rfl (fun ls hl => ?_)
    refine lv_goto (tgt := 24) hx hb dX7_place_160 (by decide) ?_
    exact hK24 used kind left_ right_ many bits rows table y1 y2 y3 y4 ((y5 + 1) &&& 65535) _ _ _ h hP hD hS (lv_sub hl [1, 2, 3, 4, 5, 0] rfl)
  · have h := o_f c145 h
    refine lv_iload hx hb dX7_place_148 (lv_at hl 6 rfl) ?_
    obtain rfl := Option.some.inj h
    exact r_ret (v := y6) F hr hlk rfl dX7_place_150 hsz hP hD hS
set_option maxHeartbeats 4000000 in
set_option maxRecDepth 100000 in
theorem w_X7_place_88 (CX : Cx p m c cX7_place 9 s args x0 RX7 meth (some .int)) (hK : va_K D vwCl (ty0 cI cJ cB) s) (hsz : s.heap.size = sz) {K24 : Int32 → (Nat → Int32) → (Nat → Int32) → (Nat → Int32) → (Nat → Int32) → (Nat → Int32) → (Nat → Int32) → (Nat → Int32) → (Nat → Int64) → Int32 → Int32 → Int32 → Int32 → Int32 → Option (Int32 × (Int32) × (Nat → Int32) × (Nat → Int32) × (Nat → Int32) × (Nat → Int32) × (Nat → Int32) × (Nat → Int32) × (Nat → Int32))} (hK24 : ∀ (used : Int32) (kind : Nat → Int32) (left_ : Nat → Int32) (right_ : Nat → Int32) (many : Nat → Int32) (bits : Nat → Int32) (rows : Nat → Int32) (table : Nat → Int32) (y1 : Int32) (y2 : Int32) (y3 : Int32) (y4 : Int32) (y5 : Int32) (H : Heap) (locs : List Loc) (ls : Array Slot), K24 used kind left_ right_ many bits rows table row y1 y2 y3 y4 y5 = some z → va_P D vwCl (ws_X7_place cI cJ cB a0 a_roots a_moved a_text a_out a_above a_below a_sum a_point a_pointRows a_pointSorts a_kind a_left a_right a_many a_bits a_rows a_table a_row thrown used rooted size outSize points takenOut great at_ fault open_ wrong by_ sort variable_ pointCount kind left_ right_ many bits rows table row) H → va_D (va_A ws0 sz) (ws_X7_place cI cJ cB a0 a_roots a_moved a_text a_out a_above a_below a_sum a_point a_pointRows a_pointSorts a_kind a_left a_right a_many a_bits a_rows a_table a_row thrown used rooted size outSize points takenOut great at_ fault open_ wrong by_ sort variable_ pointCount kind left_ right_ many bits rows table row) → va_S (va_A ws0 sz) s.heap H locs → lv_has ls 9 [(0, .ref a0), (1, .int y1), (2, .int y2), (3, .int y3), (4, .int y4), (5, .int y5)] → W p l e rm_X7_place s m args below meth c H locs 0 0 (MQ below (gQ D sz ws0 (ws_X7_place cI cJ cB a0 a_roots a_moved a_text a_out a_above a_below a_sum a_point a_pointRows a_pointSorts a_kind a_left a_right a_many a_bits a_rows a_table a_row thrown z.2.1 rooted size outSize points takenOut great at_ fault open_ wrong by_ sort variable_ pointCount z.2.2.1 z.2.2.2.1 z.2.2.2.2.1 z.2.2.2.2.2.1 z.2.2.2.2.2.2.1 z.2.2.2.2.2.2.2.1 z.2.2.2.2.2.2.2.2 row) (some (.int z.1))) args s 0 0 (va_A ws0 sz)) (F0 m 24 ls [])) : ∀ (n : Nat), ∀ (used : Int32) (kind : Nat → Int32) (left_ : Nat → Int32) (right_ : Nat → Int32) (many : Nat → Int32) (bits : Nat → Int32) (rows : Nat → Int32) (table : Nat → Int32) (y1 : Int32) (y2 : Int32) (y3 : Int32) (y4 : Int32) (y5 : Int32) (y6 : Int32) (y7 : Int32) (y8 : Int32) (H : Heap) (locs : List Loc) (ls : Array Slot), f_X7_place_88 K24 N n used kind left_ right_ many bits rows table row y1 y2 y3 y4 y5 y6 y7 y8 = some z → va_P D vwCl (ws_X7_place cI cJ cB a0 a_roots a_moved a_text a_out a_above a_below a_sum a_point a_pointRows a_pointSorts a_kind a_left a_right a_many a_bits a_rows a_table a_row thrown used rooted size outSize points takenOut great at_ fault open_ wrong by_ sort variable_ pointCount kind left_ right_ many bits rows table row) H → va_D (va_A ws0 sz) (ws_X7_place cI cJ cB a0 a_roots a_moved a_text a_out a_above a_below a_sum a_point a_pointRows a_pointSorts a_kind a_left a_right a_many a_bits a_rows a_table a_row thrown used rooted size outSize points takenOut great at_ fault open_ wrong by_ sort variable_ pointCount kind left_ right_ many bits rows table row) → va_S (va_A ws0 sz) s.heap H locs → lv_has ls 9 [(0, .ref a0), (1, .int y1), (2, .int y2), (3, .int y3), (4, .int y4), (5, .int y5), (6, .int y6), (7, .int y7), (8, .int y8)] → W p l e rm_X7_place s m args below meth c H locs 0 0 (MQ below (gQ D sz ws0 (ws_X7_place cI cJ cB a0 a_roots a_moved a_text a_out a_above a_below a_sum a_point a_pointRows a_pointSorts a_kind a_left a_right a_many a_bits a_rows a_table a_row thrown z.2.1 rooted size outSize points takenOut great at_ fault open_ wrong by_ sort variable_ pointCount z.2.2.1 z.2.2.2.1 z.2.2.2.2.1 z.2.2.2.2.2.1 z.2.2.2.2.2.2.1 z.2.2.2.2.2.2.2.1 z.2.2.2.2.2.2.2.2 row) (some (.int z.1))) args s 0 0 (va_A ws0 sz)) (F0 m 88 ls []) := by
  obtain ⟨F, hr, hlk, hNw⟩ := id CX
  have hx := F.1
  have hb := F.2.1
  have hown := F.2.2.2.1
  have hA : ∀ q, s.heap.size ≤ q → va_A ws0 sz q := fun q hq => Or.inr (hsz ▸ hq)
  intro n
  induction n with
  | zero =>
    intro used kind left_ right_ many bits rows table y1 y2 y3 y4 y5 y6 y7 y8 H locs ls h
    cases h
  | succ n ih =>
    intro used kind left_ right_ many bits rows table y1 y2 y3 y4 y5 y6 y7 y8 H locs ls h hP hD hS hl
    unfold f_X7_place_88 at h
    refine lv_iload hx hb dX7_place_88 (lv_at hl 8 rfl) ?_
    refine lv_bipush (v := 9) hx hb dX7_place_90 (by decide) ?_
    refine lv_icmp_ge (tgt := 143) hx hb dX7_place_92 (by decide) (fun c92 => ?_) (fun c92 => ?_)
    · have h := o_t c92 h
      exact w_X7_place_143 CX hK hsz (hK24 := hK24) used kind left_ right_ many bits rows table y1 y2 y3 y4 y5 y6 y7 _ _ _ h hP hD hS (lv_sub hl [0, 1, 2, 3, 4, 5, 6, 7] rfl)
    · have h := o_f c92 h
      refine lv_iload hx hb dX7_place_95 (lv_at hl 4 rfl) ?_
      refine lv_if_eq (tgt := 143) hx hb dX7_place_97 (by decide) (fun c97 => ?_) (fun c97 => ?_)
      · have h := o_t c97 h
        exact w_X7_place_143 CX hK hsz (hK24 := hK24) used kind left_ right_ many bits rows table y1 y2 y3 y4 y5 y6 y7 _ _ _ h hP hD hS (lv_sub hl [0, 1, 2, 3, 4, 5, 6, 7] rfl)
      · have h := o_f c97 h
        refine lv_iload hx hb dX7_place_100 (lv_at hl 7 rfl) ?_
        refine lv_if_eq (tgt := 143) hx hb dX7_place_102 (by decide) (fun c102 => ?_) (fun c102 => ?_)
        · have h := o_t c102 h
          exact w_X7_place_143 CX hK hsz (hK24 := hK24) used kind left_ right_ many bits rows table y1 y2 y3 y4 y5 y6 y7 _ _ _ h hP hD hS (lv_sub hl [0, 1, 2, 3, 4, 5, 6, 7] rfl)
        · have h := o_f c102 h
          refine lv_aload_n hx hb dX7_place_105 rfl (lv_at hl 0 rfl) ?_
          refine r_get F hK hP 0 6 rfl inW_X7 wm_1098 rfl (by decide) rfl dX7_place_106 ?_
          refine lv_bipush (v := 9) hx hb dX7_place_109 (by decide) ?_
          refine lv_iload hx hb dX7_place_111 (lv_at hl 6 rfl) ?_
          refine lv_imul hx hb dX7_place_113 ?_
          refine lv_iload hx hb dX7_place_114 (lv_at hl 8 rfl) ?_
          refine lv_iadd hx hb dX7_place_116 ?_
          obtain ⟨hi117, h⟩ := o_ix h
          refine va_iald hx hb hK hP 6 0 rfl rfl hi117 dX7_place_117 ?_
          refine lv_i2l hx hb dX7_place_118 rfl ?_
          refine lv_aload_n hx hb dX7_place_119 rfl (lv_at hl 0 rfl) ?_
          refine r_get F hK hP 0 21 rfl inW_X7 wm_1113 rfl (by decide) rfl dX7_place_120 ?_
          refine lv_iload hx hb dX7_place_123 (lv_at hl 8 rfl) ?_
          obtain ⟨hi125, h⟩ := o_ix h
          refine va_lald hx hb hK hP 8 1 rfl rfl hi125 dX7_place_125 ?_
          refine W.lcmp hx hb dX7_place_126 ?_
          refine lv_if_ne (tgt := 134) hx hb dX7_place_127 (by decide) (fun c127 => ?_) (fun c127 => ?_)
          · have h := o_f c127 h
            refine lv_iconst (v := 0) hx hb dX7_place_134 (by decide) ?_
            exact w_X7_place_135 CX hK hsz (hK24 := hK24) (hK88 := ih) used kind left_ right_ many bits rows table y1 y2 y3 y4 y5 y6 y8 0 _ _ _ h hP hD hS (lv_sub hl [0, 1, 2, 3, 4, 5, 6, 8] rfl)
          · have h := o_t c127 h
            refine lv_iconst (v := 1) hx hb dX7_place_130 (by decide) ?_
            refine lv_goto (tgt := 135) hx hb dX7_place_131 (by decide) ?_
            exact w_X7_place_135 CX hK hsz (hK24 := hK24) (hK88 := ih) used kind left_ right_ many bits rows table y1 y2 y3 y4 y5 y6 y8 1 _ _ _ h hP hD hS (lv_sub hl [0, 1, 2, 3, 4, 5, 6, 8] rfl)
set_option maxHeartbeats 4000000 in
set_option maxRecDepth 100000 in
theorem w_X7_place_83 (CX : Cx p m c cX7_place 9 s args x0 RX7 meth (some .int)) (hK : va_K D vwCl (ty0 cI cJ cB) s) (hsz : s.heap.size = sz) {K24 : Int32 → (Nat → Int32) → (Nat → Int32) → (Nat → Int32) → (Nat → Int32) → (Nat → Int32) → (Nat → Int32) → (Nat → Int32) → (Nat → Int64) → Int32 → Int32 → Int32 → Int32 → Int32 → Option (Int32 × (Int32) × (Nat → Int32) × (Nat → Int32) × (Nat → Int32) × (Nat → Int32) × (Nat → Int32) × (Nat → Int32) × (Nat → Int32))} (hK24 : ∀ (used : Int32) (kind : Nat → Int32) (left_ : Nat → Int32) (right_ : Nat → Int32) (many : Nat → Int32) (bits : Nat → Int32) (rows : Nat → Int32) (table : Nat → Int32) (y1 : Int32) (y2 : Int32) (y3 : Int32) (y4 : Int32) (y5 : Int32) (H : Heap) (locs : List Loc) (ls : Array Slot), K24 used kind left_ right_ many bits rows table row y1 y2 y3 y4 y5 = some z → va_P D vwCl (ws_X7_place cI cJ cB a0 a_roots a_moved a_text a_out a_above a_below a_sum a_point a_pointRows a_pointSorts a_kind a_left a_right a_many a_bits a_rows a_table a_row thrown used rooted size outSize points takenOut great at_ fault open_ wrong by_ sort variable_ pointCount kind left_ right_ many bits rows table row) H → va_D (va_A ws0 sz) (ws_X7_place cI cJ cB a0 a_roots a_moved a_text a_out a_above a_below a_sum a_point a_pointRows a_pointSorts a_kind a_left a_right a_many a_bits a_rows a_table a_row thrown used rooted size outSize points takenOut great at_ fault open_ wrong by_ sort variable_ pointCount kind left_ right_ many bits rows table row) → va_S (va_A ws0 sz) s.heap H locs → lv_has ls 9 [(0, .ref a0), (1, .int y1), (2, .int y2), (3, .int y3), (4, .int y4), (5, .int y5)] → W p l e rm_X7_place s m args below meth c H locs 0 0 (MQ below (gQ D sz ws0 (ws_X7_place cI cJ cB a0 a_roots a_moved a_text a_out a_above a_below a_sum a_point a_pointRows a_pointSorts a_kind a_left a_right a_many a_bits a_rows a_table a_row thrown z.2.1 rooted size outSize points takenOut great at_ fault open_ wrong by_ sort variable_ pointCount z.2.2.1 z.2.2.2.1 z.2.2.2.2.1 z.2.2.2.2.2.1 z.2.2.2.2.2.2.1 z.2.2.2.2.2.2.2.1 z.2.2.2.2.2.2.2.2 row) (some (.int z.1))) args s 0 0 (va_A ws0 sz)) (F0 m 24 ls [])) : ∀ (used : Int32) (kind : Nat → Int32) (left_ : Nat → Int32) (right_ : Nat → Int32) (many : Nat → Int32) (bits : Nat → Int32) (rows : Nat → Int32) (table : Nat → Int32) (y1 : Int32) (y2 : Int32) (y3 : Int32) (y4 : Int32) (y5 : Int32) (y6 : Int32) (s0 : Int32) (H : Heap) (locs : List Loc) (ls : Array Slot), f_X7_place_83 K24 N used kind left_ right_ many bits rows table row y1 y2 y3 y4 y5 y6 s0 = some z → va_P D vwCl (ws_X7_place cI cJ cB a0 a_roots a_moved a_text a_out a_above a_below a_sum a_point a_pointRows a_pointSorts a_kind a_left a_right a_many a_bits a_rows a_table a_row thrown used rooted size outSize points takenOut great at_ fault open_ wrong by_ sort variable_ pointCount kind left_ right_ many bits rows table row) H → va_D (va_A ws0 sz) (ws_X7_place cI cJ cB a0 a_roots a_moved a_text a_out a_above a_below a_sum a_point a_pointRows a_pointSorts a_kind a_left a_right a_many a_bits a_rows a_table a_row thrown used rooted size outSize points takenOut great at_ fault open_ wrong by_ sort variable_ pointCount kind left_ right_ many bits rows table row) → va_S (va_A ws0 sz) s.heap H locs → lv_has ls 9 [(0, .ref a0), (1, .int y1), (2, .int y2), (3, .int y3), (4, .int y4), (5, .int y5), (6, .int y6)] → W p l e rm_X7_place s m args below meth c H locs 0 0 (MQ below (gQ D sz ws0 (ws_X7_place cI cJ cB a0 a_roots a_moved a_text a_out a_above a_below a_sum a_point a_pointRows a_pointSorts a_kind a_left a_right a_many a_bits a_rows a_table a_row thrown z.2.1 rooted size outSize points takenOut great at_ fault open_ wrong by_ sort variable_ pointCount z.2.2.1 z.2.2.2.1 z.2.2.2.2.1 z.2.2.2.2.2.1 z.2.2.2.2.2.2.1 z.2.2.2.2.2.2.2.1 z.2.2.2.2.2.2.2.2 row) (some (.int z.1))) args s 0 0 (va_A ws0 sz)) (F0 m 83 ls [.int s0]) := by
  obtain ⟨F, hr, hlk, hNw⟩ := id CX
  have hx := F.1
  have hb := F.2.1
  have hown := F.2.2.2.1
  have hA : ∀ q, s.heap.size ≤ q → va_A ws0 sz q := fun q hq => Or.inr (hsz ▸ hq)
  intro used kind left_ right_ many bits rows table y1 y2 y3 y4 y5 y6 s0 H locs ls h hP hD hS hl
  unfold f_X7_place_83 at h
  refine lv_istore (lv' := [(7, .int s0), (0, .ref a0), (1, .int y1), (2, .int y2), (3, .int y3), (4, .int y4), (5, .int y5), (6, .int y6)]) hx hb dX7_place_83 hl (by decide) rfl (fun ls hl => ?_)
  refine lv_iconst (v := 0) hx hb dX7_place_85 (by decide) ?_
  refine lv_istore (lv' := [(8, .int 0), (7, .int s0), (0, .ref a0), (1, .int y1), (2, .int y2), (3, .int y3), (4, .int y4), (5, .int y5), (6, .int y6)]) hx hb dX7_place_86 hl (by decide) rfl (fun ls hl => ?_)
  exact w_X7_place_88 CX hK hsz (hK24 := hK24) N used kind left_ right_ many bits rows table y1 y2 y3 y4 y5 y6 s0 0 _ _ _ h hP hD hS (lv_sub hl [2, 3, 4, 5, 6, 7, 8, 1, 0] rfl)
set_option maxHeartbeats 4000000 in
set_option maxRecDepth 100000 in
theorem w_X7_place_82 (CX : Cx p m c cX7_place 9 s args x0 RX7 meth (some .int)) (hK : va_K D vwCl (ty0 cI cJ cB) s) (hsz : s.heap.size = sz) {K24 : Int32 → (Nat → Int32) → (Nat → Int32) → (Nat → Int32) → (Nat → Int32) → (Nat → Int32) → (Nat → Int32) → (Nat → Int32) → (Nat → Int64) → Int32 → Int32 → Int32 → Int32 → Int32 → Option (Int32 × (Int32) × (Nat → Int32) × (Nat → Int32) × (Nat → Int32) × (Nat → Int32) × (Nat → Int32) × (Nat → Int32) × (Nat → Int32))} (hK24 : ∀ (used : Int32) (kind : Nat → Int32) (left_ : Nat → Int32) (right_ : Nat → Int32) (many : Nat → Int32) (bits : Nat → Int32) (rows : Nat → Int32) (table : Nat → Int32) (y1 : Int32) (y2 : Int32) (y3 : Int32) (y4 : Int32) (y5 : Int32) (H : Heap) (locs : List Loc) (ls : Array Slot), K24 used kind left_ right_ many bits rows table row y1 y2 y3 y4 y5 = some z → va_P D vwCl (ws_X7_place cI cJ cB a0 a_roots a_moved a_text a_out a_above a_below a_sum a_point a_pointRows a_pointSorts a_kind a_left a_right a_many a_bits a_rows a_table a_row thrown used rooted size outSize points takenOut great at_ fault open_ wrong by_ sort variable_ pointCount kind left_ right_ many bits rows table row) H → va_D (va_A ws0 sz) (ws_X7_place cI cJ cB a0 a_roots a_moved a_text a_out a_above a_below a_sum a_point a_pointRows a_pointSorts a_kind a_left a_right a_many a_bits a_rows a_table a_row thrown used rooted size outSize points takenOut great at_ fault open_ wrong by_ sort variable_ pointCount kind left_ right_ many bits rows table row) → va_S (va_A ws0 sz) s.heap H locs → lv_has ls 9 [(0, .ref a0), (1, .int y1), (2, .int y2), (3, .int y3), (4, .int y4), (5, .int y5)] → W p l e rm_X7_place s m args below meth c H locs 0 0 (MQ below (gQ D sz ws0 (ws_X7_place cI cJ cB a0 a_roots a_moved a_text a_out a_above a_below a_sum a_point a_pointRows a_pointSorts a_kind a_left a_right a_many a_bits a_rows a_table a_row thrown z.2.1 rooted size outSize points takenOut great at_ fault open_ wrong by_ sort variable_ pointCount z.2.2.1 z.2.2.2.1 z.2.2.2.2.1 z.2.2.2.2.2.1 z.2.2.2.2.2.2.1 z.2.2.2.2.2.2.2.1 z.2.2.2.2.2.2.2.2 row) (some (.int z.1))) args s 0 0 (va_A ws0 sz)) (F0 m 24 ls [])) : ∀ (used : Int32) (kind : Nat → Int32) (left_ : Nat → Int32) (right_ : Nat → Int32) (many : Nat → Int32) (bits : Nat → Int32) (rows : Nat → Int32) (table : Nat → Int32) (y1 : Int32) (y2 : Int32) (y3 : Int32) (y4 : Int32) (y5 : Int32) (y6 : Int32) (H : Heap) (locs : List Loc) (ls : Array Slot), f_X7_place_82 K24 N used kind left_ right_ many bits rows table row y1 y2 y3 y4 y5 y6 = some z → va_P D vwCl (ws_X7_place cI cJ cB a0 a_roots a_moved a_text a_out a_above a_below a_sum a_point a_pointRows a_pointSorts a_kind a_left a_right a_many a_bits a_rows a_table a_row thrown used rooted size outSize points takenOut great at_ fault open_ wrong by_ sort variable_ pointCount kind left_ right_ many bits rows table row) H → va_D (va_A ws0 sz) (ws_X7_place cI cJ cB a0 a_roots a_moved a_text a_out a_above a_below a_sum a_point a_pointRows a_pointSorts a_kind a_left a_right a_many a_bits a_rows a_table a_row thrown used rooted size outSize points takenOut great at_ fault open_ wrong by_ sort variable_ pointCount kind left_ right_ many bits rows table row) → va_S (va_A ws0 sz) s.heap H locs → lv_has ls 9 [(0, .ref a0), (1, .int y1), (2, .int y2), (3, .int y3), (4, .int y4), (5, .int y5), (6, .int y6)] → W p l e rm_X7_place s m args below meth c H locs 0 0 (MQ below (gQ D sz ws0 (ws_X7_place cI cJ cB a0 a_roots a_moved a_text a_out a_above a_below a_sum a_point a_pointRows a_pointSorts a_kind a_left a_right a_many a_bits a_rows a_table a_row thrown z.2.1 rooted size outSize points takenOut great at_ fault open_ wrong by_ sort variable_ pointCount z.2.2.1 z.2.2.2.1 z.2.2.2.2.1 z.2.2.2.2.2.1 z.2.2.2.2.2.2.1 z.2.2.2.2.2.2.2.1 z.2.2.2.2.2.2.2.2 row) (some (.int z.1))) args s 0 0 (va_A ws0 sz)) (F0 m 82 ls []) := by
  obtain ⟨F, hr, hlk, hNw⟩ := id CX
  have hx := F.1
  have hb := F.2.1
  have hown := F.2.2.2.1
  have hA : ∀ q, s.heap.size ≤ q → va_A ws0 sz q := fun q hq => Or.inr (hsz ▸ hq)
  intro used kind left_ right_ many bits rows table y1 y2 y3 y4 y5 y6 H locs ls h hP hD hS hl
  unfold f_X7_place_82 at h
  refine lv_iconst (v := 0) hx hb dX7_place_82 (by decide) ?_
  exact w_X7_place_83 CX hK hsz (hK24 := hK24) used kind left_ right_ many bits rows table y1 y2 y3 y4 y5 y6 0 _ _ _ h hP hD hS (lv_sub hl [0, 1, 2, 3, 4, 5, 6] rfl)
set_option maxHeartbeats 4000000 in
set_option maxRecDepth 100000 in
theorem w_X7_place_389 (CX : Cx p m c cX7_place 9 s args x0 RX7 meth (some .int)) (hK : va_K D vwCl (ty0 cI cJ cB) s) (hsz : s.heap.size = sz) {K321 : Int32 → (Nat → Int32) → (Nat → Int32) → (Nat → Int32) → (Nat → Int32) → (Nat → Int32) → (Nat → Int32) → (Nat → Int32) → (Nat → Int64) → Int32 → Int32 → Int32 → Option (Int32 × (Int32) × (Nat → Int32) × (Nat → Int32) × (Nat → Int32) × (Nat → Int32) × (Nat → Int32) × (Nat → Int32) × (Nat → Int32))} (hK321 : ∀ (used : Int32) (kind : Nat → Int32) (left_ : Nat → Int32) (right_ : Nat → Int32) (many : Nat → Int32) (bits : Nat → Int32) (rows : Nat → Int32) (table : Nat → Int32) (y4 : Int32) (y6 : Int32) (y7 : Int32) (H : Heap) (locs : List Loc) (ls : Array Slot), K321 used kind left_ right_ many bits rows table row y4 y6 y7 = some z → va_P D vwCl (ws_X7_place cI cJ cB a0 a_roots a_moved a_text a_out a_above a_below a_sum a_point a_pointRows a_pointSorts a_kind a_left a_right a_many a_bits a_rows a_table a_row thrown used rooted size outSize points takenOut great at_ fault open_ wrong by_ sort variable_ pointCount kind left_ right_ many bits rows table row) H → va_D (va_A ws0 sz) (ws_X7_place cI cJ cB a0 a_roots a_moved a_text a_out a_above a_below a_sum a_point a_pointRows a_pointSorts a_kind a_left a_right a_many a_bits a_rows a_table a_row thrown used rooted size outSize points takenOut great at_ fault open_ wrong by_ sort variable_ pointCount kind left_ right_ many bits rows table row) → va_S (va_A ws0 sz) s.heap H locs → lv_has ls 9 [(0, .ref a0), (4, .int y4), (6, .int y6), (7, .int y7)] → W p l e rm_X7_place s m args below meth c H locs 0 0 (MQ below (gQ D sz ws0 (ws_X7_place cI cJ cB a0 a_roots a_moved a_text a_out a_above a_below a_sum a_point a_pointRows a_pointSorts a_kind a_left a_right a_many a_bits a_rows a_table a_row thrown z.2.1 rooted size outSize points takenOut great at_ fault open_ wrong by_ sort variable_ pointCount z.2.2.1 z.2.2.2.1 z.2.2.2.2.1 z.2.2.2.2.2.1 z.2.2.2.2.2.2.1 z.2.2.2.2.2.2.2.1 z.2.2.2.2.2.2.2.2 row) (some (.int z.1))) args s 0 0 (va_A ws0 sz)) (F0 m 321 ls [])) : ∀ (used : Int32) (kind : Nat → Int32) (left_ : Nat → Int32) (right_ : Nat → Int32) (many : Nat → Int32) (bits : Nat → Int32) (rows : Nat → Int32) (table : Nat → Int32) (y4 : Int32) (y6 : Int32) (y7 : Int32) (s1 : Int32) (s2 : Int32) (s3 : Int32) (H : Heap) (locs : List Loc) (ls : Array Slot), f_X7_place_389 K321 N used kind left_ right_ many bits rows table row y4 y6 y7 s1 s2 s3 = some z → va_P D vwCl (ws_X7_place cI cJ cB a0 a_roots a_moved a_text a_out a_above a_below a_sum a_point a_pointRows a_pointSorts a_kind a_left a_right a_many a_bits a_rows a_table a_row thrown used rooted size outSize points takenOut great at_ fault open_ wrong by_ sort variable_ pointCount kind left_ right_ many bits rows table row) H → va_D (va_A ws0 sz) (ws_X7_place cI cJ cB a0 a_roots a_moved a_text a_out a_above a_below a_sum a_point a_pointRows a_pointSorts a_kind a_left a_right a_many a_bits a_rows a_table a_row thrown used rooted size outSize points takenOut great at_ fault open_ wrong by_ sort variable_ pointCount kind left_ right_ many bits rows table row) → va_S (va_A ws0 sz) s.heap H locs → lv_has ls 9 [(0, .ref a0), (4, .int y4), (6, .int y6), (7, .int y7)] → W p l e rm_X7_place s m args below meth c H locs 0 0 (MQ below (gQ D sz ws0 (ws_X7_place cI cJ cB a0 a_roots a_moved a_text a_out a_above a_below a_sum a_point a_pointRows a_pointSorts a_kind a_left a_right a_many a_bits a_rows a_table a_row thrown z.2.1 rooted size outSize points takenOut great at_ fault open_ wrong by_ sort variable_ pointCount z.2.2.1 z.2.2.2.1 z.2.2.2.2.1 z.2.2.2.2.2.1 z.2.2.2.2.2.2.1 z.2.2.2.2.2.2.2.1 z.2.2.2.2.2.2.2.2 row) (some (.int z.1))) args s 0 0 (va_A ws0 sz)) (F0 m 389 ls [.int s3, .int s2, .int s1, .ref a_bits]) := by
  obtain ⟨F, hr, hlk, hNw⟩ := id CX
  have hx := F.1
  have hb := F.2.1
  have hown := F.2.2.2.1
  have hA : ∀ q, s.heap.size ≤ q → va_A ws0 sz q := fun q hq => Or.inr (hsz ▸ hq)
  intro used kind left_ right_ many bits rows table y4 y6 y7 s1 s2 s3 H locs ls h hP hD hS hl
  unfold f_X7_place_389 at h
  refine lv_ior hx hb dX7_place_389 ?_
  obtain ⟨hi390, h⟩ := o_ix h
  refine r_iast (wn := (ws_X7_place cI cJ cB a0 a_roots a_moved a_text a_out a_above a_below a_sum a_point a_pointRows a_pointSorts a_kind a_left a_right a_many a_bits a_rows a_table a_row thrown used rooted size outSize points takenOut great at_ fault open_ wrong by_ sort variable_ pointCount kind left_ right_ many (upd bits s1.toNatClampNeg (s2 ||| s3)) rows table row)) F hK hP hD hS 5 0 hi390 rfl rfl rfl dX7_place_390 (fun H locs hP hD hS => ?_)
  refine lv_iinc (v := y7 + 1) (lv' := [(7, .int (y7 + 1)), (0, .ref a0), (4, .int y4), (6, .int y6)]) hx hb dX7_place_391 hl (k := 3) rfl rfl (by decide) rfl (fun ls hl => ?_)
  refine lv_goto (tgt := 321) hx hb dX7_place_394 (by decide) ?_
  exact hK321 used kind left_ right_ many (upd bits s1.toNatClampNeg (s2 ||| s3)) rows table y4 y6 (y7 + 1) _ _ _ h hP hD hS (lv_sub hl [1, 2, 3, 0] rfl)
set_option maxHeartbeats 4000000 in
set_option maxRecDepth 100000 in
theorem w_X7_place_388 (CX : Cx p m c cX7_place 9 s args x0 RX7 meth (some .int)) (hK : va_K D vwCl (ty0 cI cJ cB) s) (hsz : s.heap.size = sz) {K321 : Int32 → (Nat → Int32) → (Nat → Int32) → (Nat → Int32) → (Nat → Int32) → (Nat → Int32) → (Nat → Int32) → (Nat → Int32) → (Nat → Int64) → Int32 → Int32 → Int32 → Option (Int32 × (Int32) × (Nat → Int32) × (Nat → Int32) × (Nat → Int32) × (Nat → Int32) × (Nat → Int32) × (Nat → Int32) × (Nat → Int32))} (hK321 : ∀ (used : Int32) (kind : Nat → Int32) (left_ : Nat → Int32) (right_ : Nat → Int32) (many : Nat → Int32) (bits : Nat → Int32) (rows : Nat → Int32) (table : Nat → Int32) (y4 : Int32) (y6 : Int32) (y7 : Int32) (H : Heap) (locs : List Loc) (ls : Array Slot), K321 used kind left_ right_ many bits rows table row y4 y6 y7 = some z → va_P D vwCl (ws_X7_place cI cJ cB a0 a_roots a_moved a_text a_out a_above a_below a_sum a_point a_pointRows a_pointSorts a_kind a_left a_right a_many a_bits a_rows a_table a_row thrown used rooted size outSize points takenOut great at_ fault open_ wrong by_ sort variable_ pointCount kind left_ right_ many bits rows table row) H → va_D (va_A ws0 sz) (ws_X7_place cI cJ cB a0 a_roots a_moved a_text a_out a_above a_below a_sum a_point a_pointRows a_pointSorts a_kind a_left a_right a_many a_bits a_rows a_table a_row thrown used rooted size outSize points takenOut great at_ fault open_ wrong by_ sort variable_ pointCount kind left_ right_ many bits rows table row) → va_S (va_A ws0 sz) s.heap H locs → lv_has ls 9 [(0, .ref a0), (4, .int y4), (6, .int y6), (7, .int y7)] → W p l e rm_X7_place s m args below meth c H locs 0 0 (MQ below (gQ D sz ws0 (ws_X7_place cI cJ cB a0 a_roots a_moved a_text a_out a_above a_below a_sum a_point a_pointRows a_pointSorts a_kind a_left a_right a_many a_bits a_rows a_table a_row thrown z.2.1 rooted size outSize points takenOut great at_ fault open_ wrong by_ sort variable_ pointCount z.2.2.1 z.2.2.2.1 z.2.2.2.2.1 z.2.2.2.2.2.1 z.2.2.2.2.2.2.1 z.2.2.2.2.2.2.2.1 z.2.2.2.2.2.2.2.2 row) (some (.int z.1))) args s 0 0 (va_A ws0 sz)) (F0 m 321 ls [])) : ∀ (used : Int32) (kind : Nat → Int32) (left_ : Nat → Int32) (right_ : Nat → Int32) (many : Nat → Int32) (bits : Nat → Int32) (rows : Nat → Int32) (table : Nat → Int32) (y4 : Int32) (y6 : Int32) (y7 : Int32) (s1 : Int32) (s2 : Int32) (H : Heap) (locs : List Loc) (ls : Array Slot), f_X7_place_388 K321 N used kind left_ right_ many bits rows table row y4 y6 y7 s1 s2 = some z → va_P D vwCl (ws_X7_place cI cJ cB a0 a_roots a_moved a_text a_out a_above a_below a_sum a_point a_pointRows a_pointSorts a_kind a_left a_right a_many a_bits a_rows a_table a_row thrown used rooted size outSize points takenOut great at_ fault open_ wrong by_ sort variable_ pointCount kind left_ right_ many bits rows table row) H → va_D (va_A ws0 sz) (ws_X7_place cI cJ cB a0 a_roots a_moved a_text a_out a_above a_below a_sum a_point a_pointRows a_pointSorts a_kind a_left a_right a_many a_bits a_rows a_table a_row thrown used rooted size outSize points takenOut great at_ fault open_ wrong by_ sort variable_ pointCount kind left_ right_ many bits rows table row) → va_S (va_A ws0 sz) s.heap H locs → lv_has ls 9 [(0, .ref a0), (4, .int y4), (6, .int y6), (7, .int y7)] → W p l e rm_X7_place s m args below meth c H locs 0 0 (MQ below (gQ D sz ws0 (ws_X7_place cI cJ cB a0 a_roots a_moved a_text a_out a_above a_below a_sum a_point a_pointRows a_pointSorts a_kind a_left a_right a_many a_bits a_rows a_table a_row thrown z.2.1 rooted size outSize points takenOut great at_ fault open_ wrong by_ sort variable_ pointCount z.2.2.1 z.2.2.2.1 z.2.2.2.2.1 z.2.2.2.2.2.1 z.2.2.2.2.2.2.1 z.2.2.2.2.2.2.2.1 z.2.2.2.2.2.2.2.2 row) (some (.int z.1))) args s 0 0 (va_A ws0 sz)) (F0 m 388 ls [.int s2, .int s1, .ref a_bits]) := by
  obtain ⟨F, hr, hlk, hNw⟩ := id CX
  have hx := F.1
  have hb := F.2.1
  have hown := F.2.2.2.1
  have hA : ∀ q, s.heap.size ≤ q → va_A ws0 sz q := fun q hq => Or.inr (hsz ▸ hq)
  intro used kind left_ right_ many bits rows table y4 y6 y7 s1 s2 H locs ls h hP hD hS hl
  unfold f_X7_place_388 at h
  refine lv_iconst (v := 0) hx hb dX7_place_388 (by decide) ?_
  exact w_X7_place_389 CX hK hsz (hK321 := hK321) used kind left_ right_ many bits rows table y4 y6 y7 s1 s2 0 _ _ _ h hP hD hS (lv_sub hl [0, 1, 2, 3] rfl)
set_option maxHeartbeats 4000000 in
set_option maxRecDepth 100000 in
theorem w_X7_place_397 (CX : Cx p m c cX7_place 9 s args x0 RX7 meth (some .int)) (hK : va_K D vwCl (ty0 cI cJ cB) s) (hsz : s.heap.size = sz) : ∀ (used : Int32) (kind : Nat → Int32) (left_ : Nat → Int32) (right_ : Nat → Int32) (many : Nat → Int32) (bits : Nat → Int32) (rows : Nat → Int32) (table : Nat → Int32) (y6 : Int32) (H : Heap) (locs : List Loc) (ls : Array Slot), f_X7_place_397 N used kind left_ right_ many bits rows table row y6 = some z → va_P D vwCl (ws_X7_place cI cJ cB a0 a_roots a_moved a_text a_out a_above a_below a_sum a_point a_pointRows a_pointSorts a_kind a_left a_right a_many a_bits a_rows a_table a_row thrown used rooted size outSize points takenOut great at_ fault open_ wrong by_ sort variable_ pointCount kind left_ right_ many bits rows table row) H → va_D (va_A ws0 sz) (ws_X7_place cI cJ cB a0 a_roots a_moved a_text a_out a_above a_below a_sum a_point a_pointRows a_pointSorts a_kind a_left a_right a_many a_bits a_rows a_table a_row thrown used rooted size outSize points takenOut great at_ fault open_ wrong by_ sort variable_ pointCount kind left_ right_ many bits rows table row) → va_S (va_A ws0 sz) s.heap H locs → lv_has ls 9 [(6, .int y6)] → W p l e rm_X7_place s m args below meth c H locs 0 0 (MQ below (gQ D sz ws0 (ws_X7_place cI cJ cB a0 a_roots a_moved a_text a_out a_above a_below a_sum a_point a_pointRows a_pointSorts a_kind a_left a_right a_many a_bits a_rows a_table a_row thrown z.2.1 rooted size outSize points takenOut great at_ fault open_ wrong by_ sort variable_ pointCount z.2.2.1 z.2.2.2.1 z.2.2.2.2.1 z.2.2.2.2.2.1 z.2.2.2.2.2.2.1 z.2.2.2.2.2.2.2.1 z.2.2.2.2.2.2.2.2 row) (some (.int z.1))) args s 0 0 (va_A ws0 sz)) (F0 m 397 ls []) := by
  obtain ⟨F, hr, hlk, hNw⟩ := id CX
  have hx := F.1
  have hb := F.2.1
  have hown := F.2.2.2.1
  have hA : ∀ q, s.heap.size ≤ q → va_A ws0 sz q := fun q hq => Or.inr (hsz ▸ hq)
  intro used kind left_ right_ many bits rows table y6 H locs ls h hP hD hS hl
  unfold f_X7_place_397 at h
  refine lv_iload hx hb dX7_place_397 (lv_at hl 0 rfl) ?_
  obtain rfl := Option.some.inj h
  exact r_ret (v := y6) F hr hlk rfl dX7_place_399 hsz hP hD hS
set_option maxHeartbeats 4000000 in
set_option maxRecDepth 100000 in
theorem w_X7_place_321 (CX : Cx p m c cX7_place 9 s args x0 RX7 meth (some .int)) (hK : va_K D vwCl (ty0 cI cJ cB) s) (hsz : s.heap.size = sz) : ∀ (n : Nat), ∀ (used : Int32) (kind : Nat → Int32) (left_ : Nat → Int32) (right_ : Nat → Int32) (many : Nat → Int32) (bits : Nat → Int32) (rows : Nat → Int32) (table : Nat → Int32) (y4 : Int32) (y6 : Int32) (y7 : Int32) (H : Heap) (locs : List Loc) (ls : Array Slot), f_X7_place_321 N n used kind left_ right_ many bits rows table row y4 y6 y7 = some z → va_P D vwCl (ws_X7_place cI cJ cB a0 a_roots a_moved a_text a_out a_above a_below a_sum a_point a_pointRows a_pointSorts a_kind a_left a_right a_many a_bits a_rows a_table a_row thrown used rooted size outSize points takenOut great at_ fault open_ wrong by_ sort variable_ pointCount kind left_ right_ many bits rows table row) H → va_D (va_A ws0 sz) (ws_X7_place cI cJ cB a0 a_roots a_moved a_text a_out a_above a_below a_sum a_point a_pointRows a_pointSorts a_kind a_left a_right a_many a_bits a_rows a_table a_row thrown used rooted size outSize points takenOut great at_ fault open_ wrong by_ sort variable_ pointCount kind left_ right_ many bits rows table row) → va_S (va_A ws0 sz) s.heap H locs → lv_has ls 9 [(0, .ref a0), (4, .int y4), (6, .int y6), (7, .int y7)] → W p l e rm_X7_place s m args below meth c H locs 0 0 (MQ below (gQ D sz ws0 (ws_X7_place cI cJ cB a0 a_roots a_moved a_text a_out a_above a_below a_sum a_point a_pointRows a_pointSorts a_kind a_left a_right a_many a_bits a_rows a_table a_row thrown z.2.1 rooted size outSize points takenOut great at_ fault open_ wrong by_ sort variable_ pointCount z.2.2.1 z.2.2.2.1 z.2.2.2.2.1 z.2.2.2.2.2.1 z.2.2.2.2.2.2.1 z.2.2.2.2.2.2.2.1 z.2.2.2.2.2.2.2.2 row) (some (.int z.1))) args s 0 0 (va_A ws0 sz)) (F0 m 321 ls []) := by
  obtain ⟨F, hr, hlk, hNw⟩ := id CX
  have hx := F.1
  have hb := F.2.1
  have hown := F.2.2.2.1
  have hA : ∀ q, s.heap.size ≤ q → va_A ws0 sz q := fun q hq => Or.inr (hsz ▸ hq)
  intro n
  induction n with
  | zero =>
    intro used kind left_ right_ many bits rows table y4 y6 y7 H locs ls h
    cases h
  | succ n ih =>
    intro used kind left_ right_ many bits rows table y4 y6 y7 H locs ls h hP hD hS hl
    unfold f_X7_place_321 at h
    refine lv_iload hx hb dX7_place_321 (lv_at hl 3 rfl) ?_
    refine lv_bipush (v := 9) hx hb dX7_place_323 (by decide) ?_
    refine lv_icmp_ge (tgt := 397) hx hb dX7_place_325 (by decide) (fun c325 => ?_) (fun c325 => ?_)
    · have h := o_t c325 h
      exact w_X7_place_397 CX hK hsz used kind left_ right_ many bits rows table y6 _ _ _ h hP hD hS (lv_sub hl [2] rfl)
    · have h := o_f c325 h
      refine lv_iload hx hb dX7_place_328 (lv_at hl 1 rfl) ?_
      refine lv_if_eq (tgt := 397) hx hb dX7_place_330 (by decide) (fun c330 => ?_) (fun c330 => ?_)
      · have h := o_t c330 h
        exact w_X7_place_397 CX hK hsz used kind left_ right_ many bits rows table y6 _ _ _ h hP hD hS (lv_sub hl [2] rfl)
      · have h := o_f c330 h
        refine lv_aload_n hx hb dX7_place_333 rfl (lv_at hl 0 rfl) ?_
        refine r_get F hK hP 0 6 rfl inW_X7 wm_1098 rfl (by decide) rfl dX7_place_334 ?_
        refine lv_bipush (v := 9) hx hb dX7_place_337 (by decide) ?_
        refine lv_iload hx hb dX7_place_339 (lv_at hl 2 rfl) ?_
        refine lv_imul hx hb dX7_place_341 ?_
        refine lv_iload hx hb dX7_place_342 (lv_at hl 3 rfl) ?_
        refine lv_iadd hx hb dX7_place_344 ?_
        refine lv_aload_n hx hb dX7_place_345 rfl (lv_at hl 0 rfl) ?_
        refine r_get F hK hP 0 21 rfl inW_X7 wm_1113 rfl (by decide) rfl dX7_place_346 ?_
        refine lv_iload hx hb dX7_place_349 (lv_at hl 3 rfl) ?_
        obtain ⟨hi351, h⟩ := o_ix h
        refine va_lald hx hb hK hP 8 1 rfl rfl hi351 dX7_place_351 ?_
        refine lv_l2i hx hb dX7_place_352 rfl ?_
        obtain ⟨hi353, h⟩ := o_ix h
        refine r_iast (wn := (ws_X7_place cI cJ cB a0 a_roots a_moved a_text a_out a_above a_below a_sum a_point a_pointRows a_pointSorts a_kind a_left a_right a_many a_bits a_rows a_table a_row thrown used rooted size outSize points takenOut great at_ fault open_ wrong by_ sort variable_ pointCount kind left_ right_ many bits (upd rows ((9 * y6) + y7).toNatClampNeg ((row y7.toNatClampNeg).toInt32)) table row)) F hK hP hD hS 6 0 hi353 rfl rfl rfl dX7_place_353 (fun H locs hP hD hS => ?_)
        refine lv_aload_n hx hb dX7_place_354 rfl (lv_at hl 0 rfl) ?_
        refine r_get F hK hP 0 5 rfl inW_X7 wm_1097 rfl (by decide) rfl dX7_place_355 ?_
        refine lv_iload hx hb dX7_place_358 (lv_at hl 2 rfl) ?_
        refine lv_dup2_11 hx hb dX7_place_360 rfl rfl ?_
        obtain ⟨hi361, h⟩ := o_ix h
        refine va_iald hx hb hK hP 5 0 rfl rfl hi361 dX7_place_361 ?_
        refine lv_iload hx hb dX7_place_362 (lv_at hl 3 rfl) ?_
        refine lv_bipush (v := 8) hx hb dX7_place_364 (by decide) ?_
        refine lv_icmp_ge (tgt := 388) hx hb dX7_place_366 (by decide) (fun c366 => ?_) (fun c366 => ?_)
        · have h := o_t c366 h
          exact w_X7_place_388 CX hK hsz (hK321 := ih) used kind left_ right_ many bits (upd rows ((9 * y6) + y7).toNatClampNeg ((row y7.toNatClampNeg).toInt32)) table y4 y6 y7 y6 (bits y6.toNatClampNeg) _ _ _ h hP hD hS (lv_sub hl [0, 1, 2, 3] rfl)
        · have h := o_f c366 h
          refine lv_aload_n hx hb dX7_place_369 rfl (lv_at hl 0 rfl) ?_
          refine r_get F hK hP 0 21 rfl inW_X7 wm_1113 rfl (by decide) rfl dX7_place_370 ?_
          refine lv_iload hx hb dX7_place_373 (lv_at hl 3 rfl) ?_
          obtain ⟨hi375, h⟩ := o_ix h
          refine va_lald hx hb hK hP 8 1 rfl rfl hi375 dX7_place_375 ?_
          refine lv_lconst (v := 0) hx hb dX7_place_376 (by decide) ?_
          refine W.lcmp hx hb dX7_place_377 ?_
          refine lv_if_eq (tgt := 388) hx hb dX7_place_378 (by decide) (fun c378 => ?_) (fun c378 => ?_)
          · have h := o_t c378 h
            exact w_X7_place_388 CX hK hsz (hK321 := ih) used kind left_ right_ many bits (upd rows ((9 * y6) + y7).toNatClampNeg ((row y7.toNatClampNeg).toInt32)) table y4 y6 y7 y6 (bits y6.toNatClampNeg) _ _ _ h hP hD hS (lv_sub hl [0, 1, 2, 3] rfl)
          · have h := o_f c378 h
            refine lv_iconst (v := 1) hx hb dX7_place_381 (by decide) ?_
            refine lv_iload hx hb dX7_place_382 (lv_at hl 3 rfl) ?_
            refine lv_ishl hx hb dX7_place_384 ?_
            refine lv_goto (tgt := 389) hx hb dX7_place_385 (by decide) ?_
            exact w_X7_place_389 CX hK hsz (hK321 := ih) used kind left_ right_ many bits (upd rows ((9 * y6) + y7).toNatClampNeg ((row y7.toNatClampNeg).toInt32)) table y4 y6 y7 y6 (bits y6.toNatClampNeg) (1 <<< (y7 &&& 31)) _ _ _ h hP hD hS (lv_sub hl [0, 1, 2, 3] rfl)
set_option maxHeartbeats 4000000 in
set_option maxRecDepth 100000 in
theorem w_X7_place_317 (CX : Cx p m c cX7_place 9 s args x0 RX7 meth (some .int)) (hK : va_K D vwCl (ty0 cI cJ cB) s) (hsz : s.heap.size = sz) : ∀ (used : Int32) (kind : Nat → Int32) (left_ : Nat → Int32) (right_ : Nat → Int32) (many : Nat → Int32) (bits : Nat → Int32) (rows : Nat → Int32) (table : Nat → Int32) (y4 : Int32) (y6 : Int32) (s1 : Int32) (s2 : Int32) (H : Heap) (locs : List Loc) (ls : Array Slot), f_X7_place_317 N used kind left_ right_ many bits rows table row y4 y6 s1 s2 = some z → va_P D vwCl (ws_X7_place cI cJ cB a0 a_roots a_moved a_text a_out a_above a_below a_sum a_point a_pointRows a_pointSorts a_kind a_left a_right a_many a_bits a_rows a_table a_row thrown used rooted size outSize points takenOut great at_ fault open_ wrong by_ sort variable_ pointCount kind left_ right_ many bits rows table row) H → va_D (va_A ws0 sz) (ws_X7_place cI cJ cB a0 a_roots a_moved a_text a_out a_above a_below a_sum a_point a_pointRows a_pointSorts a_kind a_left a_right a_many a_bits a_rows a_table a_row thrown used rooted size outSize points takenOut great at_ fault open_ wrong by_ sort variable_ pointCount kind left_ right_ many bits rows table row) → va_S (va_A ws0 sz) s.heap H locs → lv_has ls 9 [(0, .ref a0), (4, .int y4), (6, .int y6)] → W p l e rm_X7_place s m args below meth c H locs 0 0 (MQ below (gQ D sz ws0 (ws_X7_place cI cJ cB a0 a_roots a_moved a_text a_out a_above a_below a_sum a_point a_pointRows a_pointSorts a_kind a_left a_right a_many a_bits a_rows a_table a_row thrown z.2.1 rooted size outSize points takenOut great at_ fault open_ wrong by_ sort variable_ pointCount z.2.2.1 z.2.2.2.1 z.2.2.2.2.1 z.2.2.2.2.2.1 z.2.2.2.2.2.2.1 z.2.2.2.2.2.2.2.1 z.2.2.2.2.2.2.2.2 row) (some (.int z.1))) args s 0 0 (va_A ws0 sz)) (F0 m 317 ls [.int s2, .int s1, .ref a_bits]) := by
  obtain ⟨F, hr, hlk, hNw⟩ := id CX
  have hx := F.1
  have hb := F.2.1
  have hown := F.2.2.2.1
  have hA : ∀ q, s.heap.size ≤ q → va_A ws0 sz q := fun q hq => Or.inr (hsz ▸ hq)
  intro used kind left_ right_ many bits rows table y4 y6 s1 s2 H locs ls h hP hD hS hl
  unfold f_X7_place_317 at h
  obtain ⟨hi317, h⟩ := o_ix h
  refine r_iast (wn := (ws_X7_place cI cJ cB a0 a_roots a_moved a_text a_out a_above a_below a_sum a_point a_pointRows a_pointSorts a_kind a_left a_right a_many a_bits a_rows a_table a_row thrown used rooted size outSize points takenOut great at_ fault open_ wrong by_ sort variable_ pointCount kind left_ right_ many (upd bits s1.toNatClampNeg s2) rows table row)) F hK hP hD hS 5 0 hi317 rfl rfl rfl dX7_place_317 (fun H locs hP hD hS => ?_)
  refine lv_iconst (v := 0) hx hb dX7_place_318 (by decide) ?_
  refine lv_istore (lv' := [(7, .int 0), (0, .ref a0), (4, .int y4), (6, .int y6)]) hx hb dX7_place_319 hl (by decide) rfl (fun ls hl => ?_)
  exact w_X7_place_321 CX hK hsz N used kind left_ right_ many (upd bits s1.toNatClampNeg s2) rows table y4 y6 0 _ _ _ h hP hD hS (lv_sub hl [1, 2, 3, 0] rfl)
set_option maxHeartbeats 4000000 in
set_option maxRecDepth 100000 in
theorem w_X7_place_280 (CX : Cx p m c cX7_place 9 s args x0 RX7 meth (some .int)) (hK : va_K D vwCl (ty0 cI cJ cB) s) (hsz : s.heap.size = sz) : ∀ (used : Int32) (kind : Nat → Int32) (left_ : Nat → Int32) (right_ : Nat → Int32) (many : Nat → Int32) (bits : Nat → Int32) (rows : Nat → Int32) (table : Nat → Int32) (y2 : Int32) (y3 : Int32) (y4 : Int32) (y6 : Int32) (s1 : Int32) (H : Heap) (locs : List Loc) (ls : Array Slot), f_X7_place_280 N used kind left_ right_ many bits rows table row y2 y3 y4 y6 s1 = some z → va_P D vwCl (ws_X7_place cI cJ cB a0 a_roots a_moved a_text a_out a_above a_below a_sum a_point a_pointRows a_pointSorts a_kind a_left a_right a_many a_bits a_rows a_table a_row thrown used rooted size outSize points takenOut great at_ fault open_ wrong by_ sort variable_ pointCount kind left_ right_ many bits rows table row) H → va_D (va_A ws0 sz) (ws_X7_place cI cJ cB a0 a_roots a_moved a_text a_out a_above a_below a_sum a_point a_pointRows a_pointSorts a_kind a_left a_right a_many a_bits a_rows a_table a_row thrown used rooted size outSize points takenOut great at_ fault open_ wrong by_ sort variable_ pointCount kind left_ right_ many bits rows table row) → va_S (va_A ws0 sz) s.heap H locs → lv_has ls 9 [(0, .ref a0), (2, .int y2), (3, .int y3), (4, .int y4), (6, .int y6)] → W p l e rm_X7_place s m args below meth c H locs 0 0 (MQ below (gQ D sz ws0 (ws_X7_place cI cJ cB a0 a_roots a_moved a_text a_out a_above a_below a_sum a_point a_pointRows a_pointSorts a_kind a_left a_right a_many a_bits a_rows a_table a_row thrown z.2.1 rooted size outSize points takenOut great at_ fault open_ wrong by_ sort variable_ pointCount z.2.2.1 z.2.2.2.1 z.2.2.2.2.1 z.2.2.2.2.2.1 z.2.2.2.2.2.2.1 z.2.2.2.2.2.2.2.1 z.2.2.2.2.2.2.2.2 row) (some (.int z.1))) args s 0 0 (va_A ws0 sz)) (F0 m 280 ls [.int s1, .ref a_bits]) := by
  obtain ⟨F, hr, hlk, hNw⟩ := id CX
  have hx := F.1
  have hb := F.2.1
  have hown := F.2.2.2.1
  have hA : ∀ q, s.heap.size ≤ q → va_A ws0 sz q := fun q hq => Or.inr (hsz ▸ hq)
  intro used kind left_ right_ many bits rows table y2 y3 y4 y6 s1 H locs ls h hP hD hS hl
  unfold f_X7_place_280 at h
  refine lv_aload_n hx hb dX7_place_280 rfl (lv_at hl 0 rfl) ?_
  refine r_get F hK hP 0 5 rfl inW_X7 wm_1097 rfl (by decide) rfl dX7_place_281 ?_
  refine lv_iload_n hx hb dX7_place_284 rfl (lv_at hl 1 rfl) ?_
  obtain ⟨hi285, h⟩ := o_ix h
  refine va_iald hx hb hK hP 5 0 rfl rfl hi285 dX7_place_285 ?_
  refine lv_aload_n hx hb dX7_place_286 rfl (lv_at hl 0 rfl) ?_
  refine r_get F hK hP 0 5 rfl inW_X7 wm_1097 rfl (by decide) rfl dX7_place_287 ?_
  refine lv_iload_n hx hb dX7_place_290 rfl (lv_at hl 2 rfl) ?_
  obtain ⟨hi291, h⟩ := o_ix h
  refine va_iald hx hb hK hP 5 0 rfl rfl hi291 dX7_place_291 ?_
  refine lv_ior hx hb dX7_place_292 ?_
  refine lv_goto (tgt := 317) hx hb dX7_place_293 (by decide) ?_
  exact w_X7_place_317 CX hK hsz used kind left_ right_ many bits rows table y4 y6 s1 ((bits y2.toNatClampNeg) ||| (bits y3.toNatClampNeg)) _ _ _ h hP hD hS (lv_sub hl [0, 3, 4] rfl)
set_option maxHeartbeats 4000000 in
set_option maxRecDepth 100000 in
theorem w_X7_place_262 (CX : Cx p m c cX7_place 9 s args x0 RX7 meth (some .int)) (hK : va_K D vwCl (ty0 cI cJ cB) s) (hsz : s.heap.size = sz) : ∀ (used : Int32) (kind : Nat → Int32) (left_ : Nat → Int32) (right_ : Nat → Int32) (many : Nat → Int32) (bits : Nat → Int32) (rows : Nat → Int32) (table : Nat → Int32) (y1 : Int32) (y2 : Int32) (y3 : Int32) (y4 : Int32) (y6 : Int32) (s1 : Int32) (s2 : Int32) (s3 : Int32) (H : Heap) (locs : List Loc) (ls : Array Slot), f_X7_place_262 N used kind left_ right_ many bits rows table row y1 y2 y3 y4 y6 s1 s2 s3 = some z → va_P D vwCl (ws_X7_place cI cJ cB a0 a_roots a_moved a_text a_out a_above a_below a_sum a_point a_pointRows a_pointSorts a_kind a_left a_right a_many a_bits a_rows a_table a_row thrown used rooted size outSize points takenOut great at_ fault open_ wrong by_ sort variable_ pointCount kind left_ right_ many bits rows table row) H → va_D (va_A ws0 sz) (ws_X7_place cI cJ cB a0 a_roots a_moved a_text a_out a_above a_below a_sum a_point a_pointRows a_pointSorts a_kind a_left a_right a_many a_bits a_rows a_table a_row thrown used rooted size outSize points takenOut great at_ fault open_ wrong by_ sort variable_ pointCount kind left_ right_ many bits rows table row) → va_S (va_A ws0 sz) s.heap H locs → lv_has ls 9 [(0, .ref a0), (1, .int y1), (2, .int y2), (3, .int y3), (4, .int y4), (6, .int y6)] → W p l e rm_X7_place s m args below meth c H locs 0 0 (MQ below (gQ D sz ws0 (ws_X7_place cI cJ cB a0 a_roots a_moved a_text a_out a_above a_below a_sum a_point a_pointRows a_pointSorts a_kind a_left a_right a_many a_bits a_rows a_table a_row thrown z.2.1 rooted size outSize points takenOut great at_ fault open_ wrong by_ sort variable_ pointCount z.2.2.1 z.2.2.2.1 z.2.2.2.2.1 z.2.2.2.2.2.1 z.2.2.2.2.2.2.1 z.2.2.2.2.2.2.2.1 z.2.2.2.2.2.2.2.2 row) (some (.int z.1))) args s 0 0 (va_A ws0 sz)) (F0 m 262 ls [.int s3, .int s2, .int s1, .ref a_many]) := by
  obtain ⟨F, hr, hlk, hNw⟩ := id CX
  have hx := F.1
  have hb := F.2.1
  have hown := F.2.2.2.1
  have hA : ∀ q, s.heap.size ≤ q → va_A ws0 sz q := fun q hq => Or.inr (hsz ▸ hq)
  intro used kind left_ right_ many bits rows table y1 y2 y3 y4 y6 s1 s2 s3 H locs ls h hP hD hS hl
  unfold f_X7_place_262 at h
  refine lv_iadd hx hb dX7_place_262 ?_
  obtain ⟨hi263, h⟩ := o_ix h
  refine r_iast (wn := (ws_X7_place cI cJ cB a0 a_roots a_moved a_text a_out a_above a_below a_sum a_point a_pointRows a_pointSorts a_kind a_left a_right a_many a_bits a_rows a_table a_row thrown used rooted size outSize points takenOut great at_ fault open_ wrong by_ sort variable_ pointCount kind left_ right_ (upd many s1.toNatClampNeg (s2 + s3)) bits rows table row)) F hK hP hD hS 4 0 hi263 rfl rfl rfl dX7_place_263 (fun H locs hP hD hS => ?_)
  refine lv_aload_n hx hb dX7_place_264 rfl (lv_at hl 0 rfl) ?_
  refine r_get F hK hP 0 5 rfl inW_X7 wm_1097 rfl (by decide) rfl dX7_place_265 ?_
  refine lv_iload hx hb dX7_place_268 (lv_at hl 5 rfl) ?_
  refine lv_iload_n hx hb dX7_place_270 rfl (lv_at hl 1 rfl) ?_
  refine lv_iconst (v := 3) hx hb dX7_place_271 (by decide) ?_
  refine lv_icmp_eq (tgt := 280) hx hb dX7_place_272 (by decide) (fun c272 => ?_) (fun c272 => ?_)
  · have h := o_t c272 h
    exact w_X7_place_280 CX hK hsz used kind left_ right_ (upd many s1.toNatClampNeg (s2 + s3)) bits rows table y2 y3 y4 y6 y6 _ _ _ h hP hD hS (lv_sub hl [0, 2, 3, 4, 5] rfl)
  · have h := o_f c272 h
    refine lv_iload_n hx hb dX7_place_275 rfl (lv_at hl 1 rfl) ?_
    refine lv_iconst (v := 4) hx hb dX7_place_276 (by decide) ?_
    refine lv_icmp_ne (tgt := 296) hx hb dX7_place_277 (by decide) (fun c277 => ?_) (fun c277 => ?_)
    · have h := o_f c277 h
      refine lv_iload_n hx hb dX7_place_296 rfl (lv_at hl 1 rfl) ?_
      refine lv_iconst (v := 5) hx hb dX7_place_297 (by decide) ?_
      refine lv_icmp_lt (tgt := 316) hx hb dX7_place_298 (by decide) (fun c298 => ?_) (fun c298 => ?_)
      · have h := o_t c298 h
        refine lv_iconst (v := 0) hx hb dX7_place_316 (by decide) ?_
        exact w_X7_place_317 CX hK hsz used kind left_ right_ (upd many s1.toNatClampNeg (s2 + s3)) bits rows table y4 y6 y6 0 _ _ _ h hP hD hS (lv_sub hl [0, 4, 5] rfl)
      · have h := o_f c298 h
        refine lv_aload_n hx hb dX7_place_301 rfl (lv_at hl 0 rfl) ?_
        refine r_get F hK hP 0 5 rfl inW_X7 wm_1097 rfl (by decide) rfl dX7_place_302 ?_
        refine lv_iload_n hx hb dX7_place_305 rfl (lv_at hl 3 rfl) ?_
        obtain ⟨hi306, h⟩ := o_ix h
        refine va_iald hx hb hK hP 5 0 rfl rfl hi306 dX7_place_306 ?_
        refine lv_iconst (v := 1) hx hb dX7_place_307 (by decide) ?_
        refine lv_iload_n hx hb dX7_place_308 rfl (lv_at hl 2 rfl) ?_
        refine lv_ishl hx hb dX7_place_309 ?_
        refine lv_iconst (v := (-1)) hx hb dX7_place_310 (by decide) ?_
        refine lv_ixor hx hb dX7_place_311 ?_
        refine lv_iand hx hb dX7_place_312 ?_
        refine lv_goto (tgt := 317) hx hb dX7_place_313 (by decide) ?_
        exact w_X7_place_317 CX hK hsz used kind left_ right_ (upd many s1.toNatClampNeg (s2 + s3)) bits rows table y4 y6 y6 ((bits y3.toNatClampNeg) &&& ((1 <<< (y2 &&& 31)) ^^^ (-1))) _ _ _ h hP hD hS (lv_sub hl [0, 4, 5] rfl)
    · have h := o_t c277 h
      exact w_X7_place_280 CX hK hsz used kind left_ right_ (upd many s1.toNatClampNeg (s2 + s3)) bits rows table y2 y3 y4 y6 y6 _ _ _ h hP hD hS (lv_sub hl [0, 2, 3, 4, 5] rfl)
set_option maxHeartbeats 4000000 in
set_option maxRecDepth 100000 in
theorem w_X7_place_231 (CX : Cx p m c cX7_place 9 s args x0 RX7 meth (some .int)) (hK : va_K D vwCl (ty0 cI cJ cB) s) (hsz : s.heap.size = sz) : ∀ (used : Int32) (kind : Nat → Int32) (left_ : Nat → Int32) (right_ : Nat → Int32) (many : Nat → Int32) (bits : Nat → Int32) (rows : Nat → Int32) (table : Nat → Int32) (y1 : Int32) (y2 : Int32) (y3 : Int32) (y4 : Int32) (y6 : Int32) (s1 : Int32) (s2 : Int32) (H : Heap) (locs : List Loc) (ls : Array Slot), f_X7_place_231 N used kind left_ right_ many bits rows table row y1 y2 y3 y4 y6 s1 s2 = some z → va_P D vwCl (ws_X7_place cI cJ cB a0 a_roots a_moved a_text a_out a_above a_below a_sum a_point a_pointRows a_pointSorts a_kind a_left a_right a_many a_bits a_rows a_table a_row thrown used rooted size outSize points takenOut great at_ fault open_ wrong by_ sort variable_ pointCount kind left_ right_ many bits rows table row) H → va_D (va_A ws0 sz) (ws_X7_place cI cJ cB a0 a_roots a_moved a_text a_out a_above a_below a_sum a_point a_pointRows a_pointSorts a_kind a_left a_right a_many a_bits a_rows a_table a_row thrown used rooted size outSize points takenOut great at_ fault open_ wrong by_ sort variable_ pointCount kind left_ right_ many bits rows table row) → va_S (va_A ws0 sz) s.heap H locs → lv_has ls 9 [(0, .ref a0), (1, .int y1), (2, .int y2), (3, .int y3), (4, .int y4), (6, .int y6)] → W p l e rm_X7_place s m args below meth c H locs 0 0 (MQ below (gQ D sz ws0 (ws_X7_place cI cJ cB a0 a_roots a_moved a_text a_out a_above a_below a_sum a_point a_pointRows a_pointSorts a_kind a_left a_right a_many a_bits a_rows a_table a_row thrown z.2.1 rooted size outSize points takenOut great at_ fault open_ wrong by_ sort variable_ pointCount z.2.2.1 z.2.2.2.1 z.2.2.2.2.1 z.2.2.2.2.2.1 z.2.2.2.2.2.2.1 z.2.2.2.2.2.2.2.1 z.2.2.2.2.2.2.2.2 row) (some (.int z.1))) args s 0 0 (va_A ws0 sz)) (F0 m 231 ls [.int s2, .int s1, .ref a_many]) := by
  obtain ⟨F, hr, hlk, hNw⟩ := id CX
  have hx := F.1
  have hb := F.2.1
  have hown := F.2.2.2.1
  have hA : ∀ q, s.heap.size ≤ q → va_A ws0 sz q := fun q hq => Or.inr (hsz ▸ hq)
  intro used kind left_ right_ many bits rows table y1 y2 y3 y4 y6 s1 s2 H locs ls h hP hD hS hl
  unfold f_X7_place_231 at h
  refine lv_aload_n hx hb dX7_place_231 rfl (lv_at hl 0 rfl) ?_
  refine r_get F hK hP 0 4 rfl inW_X7 wm_1096 rfl (by decide) rfl dX7_place_232 ?_
  refine lv_iload_n hx hb dX7_place_235 rfl (lv_at hl 2 rfl) ?_
  obtain ⟨hi236, h⟩ := o_ix h
  refine va_iald hx hb hK hP 4 0 rfl rfl hi236 dX7_place_236 ?_
  refine lv_aload_n hx hb dX7_place_237 rfl (lv_at hl 0 rfl) ?_
  refine r_get F hK hP 0 4 rfl inW_X7 wm_1096 rfl (by decide) rfl dX7_place_238 ?_
  refine lv_iload_n hx hb dX7_place_241 rfl (lv_at hl 3 rfl) ?_
  obtain ⟨hi242, h⟩ := o_ix h
  refine va_iald hx hb hK hP 4 0 rfl rfl hi242 dX7_place_242 ?_
  refine lv_iadd hx hb dX7_place_243 ?_
  refine lv_goto (tgt := 262) hx hb dX7_place_244 (by decide) ?_
  exact w_X7_place_262 CX hK hsz used kind left_ right_ many bits rows table y1 y2 y3 y4 y6 s1 s2 ((many y2.toNatClampNeg) + (many y3.toNatClampNeg)) _ _ _ h hP hD hS (lv_sub hl [0, 1, 2, 3, 4, 5] rfl)
set_option maxHeartbeats 4000000 in
set_option maxRecDepth 100000 in
theorem w_X7_place_24 (CX : Cx p m c cX7_place 9 s args x0 RX7 meth (some .int)) (hK : va_K D vwCl (ty0 cI cJ cB) s) (hsz : s.heap.size = sz) : ∀ (n : Nat), ∀ (used : Int32) (kind : Nat → Int32) (left_ : Nat → Int32) (right_ : Nat → Int32) (many : Nat → Int32) (bits : Nat → Int32) (rows : Nat → Int32) (table : Nat → Int32) (y1 : Int32) (y2 : Int32) (y3 : Int32) (y4 : Int32) (y5 : Int32) (H : Heap) (locs : List Loc) (ls : Array Slot), f_X7_place_24 N n used kind left_ right_ many bits rows table row y1 y2 y3 y4 y5 = some z → va_P D vwCl (ws_X7_place cI cJ cB a0 a_roots a_moved a_text a_out a_above a_below a_sum a_point a_pointRows a_pointSorts a_kind a_left a_right a_many a_bits a_rows a_table a_row thrown used rooted size outSize points takenOut great at_ fault open_ wrong by_ sort variable_ pointCount kind left_ right_ many bits rows table row) H → va_D (va_A ws0 sz) (ws_X7_place cI cJ cB a0 a_roots a_moved a_text a_out a_above a_below a_sum a_point a_pointRows a_pointSorts a_kind a_left a_right a_many a_bits a_rows a_table a_row thrown used rooted size outSize points takenOut great at_ fault open_ wrong by_ sort variable_ pointCount kind left_ right_ many bits rows table row) → va_S (va_A ws0 sz) s.heap H locs → lv_has ls 9 [(0, .ref a0), (1, .int y1), (2, .int y2), (3, .int y3), (4, .int y4), (5, .int y5)] → W p l e rm_X7_place s m args below meth c H locs 0 0 (MQ below (gQ D sz ws0 (ws_X7_place cI cJ cB a0 a_roots a_moved a_text a_out a_above a_below a_sum a_point a_pointRows a_pointSorts a_kind a_left a_right a_many a_bits a_rows a_table a_row thrown z.2.1 rooted size outSize points takenOut great at_ fault open_ wrong by_ sort variable_ pointCount z.2.2.1 z.2.2.2.1 z.2.2.2.2.1 z.2.2.2.2.2.1 z.2.2.2.2.2.2.1 z.2.2.2.2.2.2.2.1 z.2.2.2.2.2.2.2.2 row) (some (.int z.1))) args s 0 0 (va_A ws0 sz)) (F0 m 24 ls []) := by
  obtain ⟨F, hr, hlk, hNw⟩ := id CX
  have hx := F.1
  have hb := F.2.1
  have hown := F.2.2.2.1
  have hA : ∀ q, s.heap.size ≤ q → va_A ws0 sz q := fun q hq => Or.inr (hsz ▸ hq)
  intro n
  induction n with
  | zero =>
    intro used kind left_ right_ many bits rows table y1 y2 y3 y4 y5 H locs ls h
    cases h
  | succ n ih =>
    intro used kind left_ right_ many bits rows table y1 y2 y3 y4 y5 H locs ls h hP hD hS hl
    unfold f_X7_place_24 at h
    refine lv_aload_n hx hb dX7_place_24 rfl (lv_at hl 0 rfl) ?_
    refine r_get F hK hP 0 7 rfl inW_X7 wm_1099 rfl (by decide) rfl dX7_place_25 ?_
    refine lv_iload hx hb dX7_place_28 (lv_at hl 5 rfl) ?_
    obtain ⟨hi30, h⟩ := o_ix h
    refine va_iald hx hb hK hP 7 0 rfl rfl hi30 dX7_place_30 ?_
    refine lv_if_le (tgt := 163) hx hb dX7_place_31 (by decide) (fun c31 => ?_) (fun c31 => ?_)
    · have h := o_t c31 h
      refine lv_aload_n hx hb dX7_place_163 rfl (lv_at hl 0 rfl) ?_
      refine r_get F hK hP 0 8 rfl inW_X7 wm_1100 rfl (by decide) rfl dX7_place_164 ?_
      refine lv_istore (lv' := [(6, .int used), (0, .ref a0), (1, .int y1), (2, .int y2), (3, .int y3), (4, .int y4), (5, .int y5)]) hx hb dX7_place_167 hl (by decide) rfl (fun ls hl => ?_)
      refine lv_aload_n hx hb dX7_place_169 rfl (lv_at hl 1 rfl) ?_
      refine lv_dup hx hb dX7_place_170 rfl ?_
      refine r_get F hK hP 0 8 rfl inW_X7 wm_1100 rfl (by decide) rfl dX7_place_171 ?_
      refine lv_iconst (v := 1) hx hb dX7_place_174 (by decide) ?_
      refine lv_iadd hx hb dX7_place_175 ?_
      refine r_put (wn := (ws_X7_place cI cJ cB a0 a_roots a_moved a_text a_out a_above a_below a_sum a_point a_pointRows a_pointSorts a_kind a_left a_right a_many a_bits a_rows a_table a_row thrown (used + 1) rooted size outSize points takenOut great at_ fault open_ wrong by_ sort variable_ pointCount kind left_ right_ many bits rows table row)) F hK hP hD hS 0 8 rfl inW_X7 wm_1100 tyX7_ok nmX7 rfl rfl (by decide) rfl rfl (Nat.le_of_ble_eq_true rfl) rfl dX7_place_176 (fun H locs hP hD hS => ?_)
      refine lv_aload_n hx hb dX7_place_179 rfl (lv_at hl 1 rfl) ?_
      refine r_get F hK hP 0 7 rfl inW_X7 wm_1099 rfl (by decide) rfl dX7_place_180 ?_
      refine lv_iload hx hb dX7_place_183 (lv_at hl 6 rfl) ?_
      refine lv_iload hx hb dX7_place_185 (lv_at hl 0 rfl) ?_
      refine lv_iconst (v := 1) hx hb dX7_place_187 (by decide) ?_
      refine lv_iadd hx hb dX7_place_188 ?_
      obtain ⟨hi189, h⟩ := o_ix h
      refine r_iast (wn := (ws_X7_place cI cJ cB a0 a_roots a_moved a_text a_out a_above a_below a_sum a_point a_pointRows a_pointSorts a_kind a_left a_right a_many a_bits a_rows a_table a_row thrown (used + 1) rooted size outSize points takenOut great at_ fault open_ wrong by_ sort variable_ pointCount kind left_ right_ many bits rows (upd table y5.toNatClampNeg (used + 1)) row)) F hK hP hD hS 7 0 hi189 rfl rfl rfl dX7_place_189 (fun H locs hP hD hS => ?_)
      refine lv_aload_n hx hb dX7_place_190 rfl (lv_at hl 1 rfl) ?_
      refine r_get F hK hP 0 1 rfl inW_X7 wm_1093 rfl (by decide) rfl dX7_place_191 ?_
      refine lv_iload hx hb dX7_place_194 (lv_at hl 0 rfl) ?_
      refine lv_iload_n hx hb dX7_place_196 rfl (lv_at hl 2 rfl) ?_
      obtain ⟨hi197, h⟩ := o_ix h
      refine r_iast (wn := (ws_X7_place cI cJ cB a0 a_roots a_moved a_text a_out a_above a_below a_sum a_point a_pointRows a_pointSorts a_kind a_left a_right a_many a_bits a_rows a_table a_row thrown (used + 1) rooted size outSize points takenOut great at_ fault open_ wrong by_ sort variable_ pointCount (upd kind used.toNatClampNeg y1) left_ right_ many bits rows (upd table y5.toNatClampNeg (used + 1)) row)) F hK hP hD hS 1 0 hi197 rfl rfl rfl dX7_place_197 (fun H locs hP hD hS => ?_)
      refine lv_aload_n hx hb dX7_place_198 rfl (lv_at hl 1 rfl) ?_
      refine r_get F hK hP 0 2 rfl inW_X7 wm_1094 rfl (by decide) rfl dX7_place_199 ?_
      refine lv_iload hx hb dX7_place_202 (lv_at hl 0 rfl) ?_
      refine lv_iload_n hx hb dX7_place_204 rfl (lv_at hl 3 rfl) ?_
      obtain ⟨hi205, h⟩ := o_ix h
      refine r_iast (wn := (ws_X7_place cI cJ cB a0 a_roots a_moved a_text a_out a_above a_below a_sum a_point a_pointRows a_pointSorts a_kind a_left a_right a_many a_bits a_rows a_table a_row thrown (used + 1) rooted size outSize points takenOut great at_ fault open_ wrong by_ sort variable_ pointCount (upd kind used.toNatClampNeg y1) (upd left_ used.toNatClampNeg y2) right_ many bits rows (upd table y5.toNatClampNeg (used + 1)) row)) F hK hP hD hS 2 0 hi205 rfl rfl rfl dX7_place_205 (fun H locs hP hD hS => ?_)
      refine lv_aload_n hx hb dX7_place_206 rfl (lv_at hl 1 rfl) ?_
      refine r_get F hK hP 0 3 rfl inW_X7 wm_1095 rfl (by decide) rfl dX7_place_207 ?_
      refine lv_iload hx hb dX7_place_210 (lv_at hl 0 rfl) ?_
      refine lv_iload_n hx hb dX7_place_212 rfl (lv_at hl 4 rfl) ?_
      obtain ⟨hi213, h⟩ := o_ix h
      refine r_iast (wn := (ws_X7_place cI cJ cB a0 a_roots a_moved a_text a_out a_above a_below a_sum a_point a_pointRows a_pointSorts a_kind a_left a_right a_many a_bits a_rows a_table a_row thrown (used + 1) rooted size outSize points takenOut great at_ fault open_ wrong by_ sort variable_ pointCount (upd kind used.toNatClampNeg y1) (upd left_ used.toNatClampNeg y2) (upd right_ used.toNatClampNeg y3) many bits rows (upd table y5.toNatClampNeg (used + 1)) row)) F hK hP hD hS 3 0 hi213 rfl rfl rfl dX7_place_213 (fun H locs hP hD hS => ?_)
      refine lv_aload_n hx hb dX7_place_214 rfl (lv_at hl 1 rfl) ?_
      refine r_get F hK hP 0 4 rfl inW_X7 wm_1096 rfl (by decide) rfl dX7_place_215 ?_
      refine lv_iload hx hb dX7_place_218 (lv_at hl 0 rfl) ?_
      refine lv_iconst (v := 1) hx hb dX7_place_220 (by decide) ?_
      refine lv_iload_n hx hb dX7_place_221 rfl (lv_at hl 2 rfl) ?_
      refine lv_iconst (v := 3) hx hb dX7_place_222 (by decide) ?_
      refine lv_icmp_eq (tgt := 231) hx hb dX7_place_223 (by decide) (fun c223 => ?_) (fun c223 => ?_)
      · have h := o_t c223 h
        exact w_X7_place_231 CX hK hsz (used + 1) (upd kind used.toNatClampNeg y1) (upd left_ used.toNatClampNeg y2) (upd right_ used.toNatClampNeg y3) many bits rows (upd table y5.toNatClampNeg (used + 1)) y1 y2 y3 y4 used used 1 _ _ _ h hP hD hS (lv_sub hl [1, 2, 3, 4, 5, 0] rfl)
      · have h := o_f c223 h
        refine lv_iload_n hx hb dX7_place_226 rfl (lv_at hl 2 rfl) ?_
        refine lv_iconst (v := 4) hx hb dX7_place_227 (by decide) ?_
        refine lv_icmp_ne (tgt := 247) hx hb dX7_place_228 (by decide) (fun c228 => ?_) (fun c228 => ?_)
        · have h := o_f c228 h
          refine lv_iload_n hx hb dX7_place_247 rfl (lv_at hl 2 rfl) ?_
          refine lv_iconst (v := 5) hx hb dX7_place_248 (by decide) ?_
          refine lv_icmp_lt (tgt := 261) hx hb dX7_place_249 (by decide) (fun c249 => ?_) (fun c249 => ?_)
          · have h := o_t c249 h
            refine lv_iconst (v := 0) hx hb dX7_place_261 (by decide) ?_
            exact w_X7_place_262 CX hK hsz (used + 1) (upd kind used.toNatClampNeg y1) (upd left_ used.toNatClampNeg y2) (upd right_ used.toNatClampNeg y3) many bits rows (upd table y5.toNatClampNeg (used + 1)) y1 y2 y3 y4 used used 1 0 _ _ _ h hP hD hS (lv_sub hl [1, 2, 3, 4, 5, 0] rfl)
          · have h := o_f c249 h
            refine lv_aload_n hx hb dX7_place_252 rfl (lv_at hl 1 rfl) ?_
            refine r_get F hK hP 0 4 rfl inW_X7 wm_1096 rfl (by decide) rfl dX7_place_253 ?_
            refine lv_iload_n hx hb dX7_place_256 rfl (lv_at hl 4 rfl) ?_
            obtain ⟨hi257, h⟩ := o_ix h
            refine va_iald hx hb hK hP 4 0 rfl rfl hi257 dX7_place_257 ?_
            refine lv_goto (tgt := 262) hx hb dX7_place_258 (by decide) ?_
            exact w_X7_place_262 CX hK hsz (used + 1) (upd kind used.toNatClampNeg y1) (upd left_ used.toNatClampNeg y2) (upd right_ used.toNatClampNeg y3) many bits rows (upd table y5.toNatClampNeg (used + 1)) y1 y2 y3 y4 used used 1 (many y3.toNatClampNeg) _ _ _ h hP hD hS (lv_sub hl [1, 2, 3, 4, 5, 0] rfl)
        · have h := o_t c228 h
          exact w_X7_place_231 CX hK hsz (used + 1) (upd kind used.toNatClampNeg y1) (upd left_ used.toNatClampNeg y2) (upd right_ used.toNatClampNeg y3) many bits rows (upd table y5.toNatClampNeg (used + 1)) y1 y2 y3 y4 used used 1 _ _ _ h hP hD hS (lv_sub hl [1, 2, 3, 4, 5, 0] rfl)
    · have h := o_f c31 h
      refine lv_aload_n hx hb dX7_place_34 rfl (lv_at hl 0 rfl) ?_
      refine r_get F hK hP 0 7 rfl inW_X7 wm_1099 rfl (by decide) rfl dX7_place_35 ?_
      refine lv_iload hx hb dX7_place_38 (lv_at hl 5 rfl) ?_
      obtain ⟨hi40, h⟩ := o_ix h
      refine va_iald hx hb hK hP 7 0 rfl rfl hi40 dX7_place_40 ?_
      refine lv_iconst (v := 1) hx hb dX7_place_41 (by decide) ?_
      refine lv_isub hx hb dX7_place_42 ?_
      refine lv_istore (lv' := [(6, .int ((table y5.toNatClampNeg) - 1)), (0, .ref a0), (1, .int y1), (2, .int y2), (3, .int y3), (4, .int y4), (5, .int y5)]) hx hb dX7_place_43 hl (by decide) rfl (fun ls hl => ?_)
      refine lv_aload_n hx hb dX7_place_45 rfl (lv_at hl 1 rfl) ?_
      refine r_get F hK hP 0 1 rfl inW_X7 wm_1093 rfl (by decide) rfl dX7_place_46 ?_
      refine lv_iload hx hb dX7_place_49 (lv_at hl 0 rfl) ?_
      obtain ⟨hi51, h⟩ := o_ix h
      refine va_iald hx hb hK hP 1 0 rfl rfl hi51 dX7_place_51 ?_
      refine lv_iload_n hx hb dX7_place_52 rfl (lv_at hl 2 rfl) ?_
      refine lv_icmp_ne (tgt := 82) hx hb dX7_place_53 (by decide) (fun c53 => ?_) (fun c53 => ?_)
      · have h := o_f c53 h
        exact w_X7_place_82 CX hK hsz (hK24 := ih) used kind left_ right_ many bits rows table y1 y2 y3 y4 y5 ((table y5.toNatClampNeg) - 1) _ _ _ h hP hD hS (lv_sub hl [1, 2, 3, 4, 5, 6, 0] rfl)
      · have h := o_t c53 h
        refine lv_aload_n hx hb dX7_place_56 rfl (lv_at hl 1 rfl) ?_
        refine r_get F hK hP 0 2 rfl inW_X7 wm_1094 rfl (by decide) rfl dX7_place_57 ?_
        refine lv_iload hx hb dX7_place_60 (lv_at hl 0 rfl) ?_
        obtain ⟨hi62, h⟩ := o_ix h
        refine va_iald hx hb hK hP 2 0 rfl rfl hi62 dX7_place_62 ?_
        refine lv_iload_n hx hb dX7_place_63 rfl (lv_at hl 3 rfl) ?_
        refine lv_icmp_ne (tgt := 82) hx hb dX7_place_64 (by decide) (fun c64 => ?_) (fun c64 => ?_)
        · have h := o_f c64 h
          exact w_X7_place_82 CX hK hsz (hK24 := ih) used kind left_ right_ many bits rows table y1 y2 y3 y4 y5 ((table y5.toNatClampNeg) - 1) _ _ _ h hP hD hS (lv_sub hl [1, 2, 3, 4, 5, 6, 0] rfl)
        · have h := o_t c64 h
          refine lv_aload_n hx hb dX7_place_67 rfl (lv_at hl 1 rfl) ?_
          refine r_get F hK hP 0 3 rfl inW_X7 wm_1095 rfl (by decide) rfl dX7_place_68 ?_
          refine lv_iload hx hb dX7_place_71 (lv_at hl 0 rfl) ?_
          obtain ⟨hi73, h⟩ := o_ix h
          refine va_iald hx hb hK hP 3 0 rfl rfl hi73 dX7_place_73 ?_
          refine lv_iload_n hx hb dX7_place_74 rfl (lv_at hl 4 rfl) ?_
          refine lv_icmp_ne (tgt := 82) hx hb dX7_place_75 (by decide) (fun c75 => ?_) (fun c75 => ?_)
          · have h := o_f c75 h
            exact w_X7_place_82 CX hK hsz (hK24 := ih) used kind left_ right_ many bits rows table y1 y2 y3 y4 y5 ((table y5.toNatClampNeg) - 1) _ _ _ h hP hD hS (lv_sub hl [1, 2, 3, 4, 5, 6, 0] rfl)
          · have h := o_t c75 h
            refine lv_iconst (v := 1) hx hb dX7_place_78 (by decide) ?_
            refine lv_goto (tgt := 83) hx hb dX7_place_79 (by decide) ?_
            exact w_X7_place_83 CX hK hsz (hK24 := ih) used kind left_ right_ many bits rows table y1 y2 y3 y4 y5 ((table y5.toNatClampNeg) - 1) 1 _ _ _ h hP hD hS (lv_sub hl [1, 2, 3, 4, 5, 6, 0] rfl)
set_option maxHeartbeats 4000000 in
set_option maxRecDepth 100000 in
theorem w_X7_place_10 (CX : Cx p m c cX7_place 9 s args x0 RX7 meth (some .int)) (hK : va_K D vwCl (ty0 cI cJ cB) s) (hsz : s.heap.size = sz) : ∀ (used : Int32) (kind : Nat → Int32) (left_ : Nat → Int32) (right_ : Nat → Int32) (many : Nat → Int32) (bits : Nat → Int32) (rows : Nat → Int32) (table : Nat → Int32) (y1 : Int32) (y2 : Int32) (y3 : Int32) (s0 : Int32) (H : Heap) (locs : List Loc) (ls : Array Slot), f_X7_place_10 N used kind left_ right_ many bits rows table row y1 y2 y3 s0 = some z → va_P D vwCl (ws_X7_place cI cJ cB a0 a_roots a_moved a_text a_out a_above a_below a_sum a_point a_pointRows a_pointSorts a_kind a_left a_right a_many a_bits a_rows a_table a_row thrown used rooted size outSize points takenOut great at_ fault open_ wrong by_ sort variable_ pointCount kind left_ right_ many bits rows table row) H → va_D (va_A ws0 sz) (ws_X7_place cI cJ cB a0 a_roots a_moved a_text a_out a_above a_below a_sum a_point a_pointRows a_pointSorts a_kind a_left a_right a_many a_bits a_rows a_table a_row thrown used rooted size outSize points takenOut great at_ fault open_ wrong by_ sort variable_ pointCount kind left_ right_ many bits rows table row) → va_S (va_A ws0 sz) s.heap H locs → lv_has ls 9 [(0, .ref a0), (1, .int y1), (2, .int y2), (3, .int y3)] → W p l e rm_X7_place s m args below meth c H locs 0 0 (MQ below (gQ D sz ws0 (ws_X7_place cI cJ cB a0 a_roots a_moved a_text a_out a_above a_below a_sum a_point a_pointRows a_pointSorts a_kind a_left a_right a_many a_bits a_rows a_table a_row thrown z.2.1 rooted size outSize points takenOut great at_ fault open_ wrong by_ sort variable_ pointCount z.2.2.1 z.2.2.2.1 z.2.2.2.2.1 z.2.2.2.2.2.1 z.2.2.2.2.2.2.1 z.2.2.2.2.2.2.2.1 z.2.2.2.2.2.2.2.2 row) (some (.int z.1))) args s 0 0 (va_A ws0 sz)) (F0 m 10 ls [.int s0]) := by
  obtain ⟨F, hr, hlk, hNw⟩ := id CX
  have hx := F.1
  have hb := F.2.1
  have hown := F.2.2.2.1
  have hA : ∀ q, s.heap.size ≤ q → va_A ws0 sz q := fun q hq => Or.inr (hsz ▸ hq)
  intro used kind left_ right_ many bits rows table y1 y2 y3 s0 H locs ls h hP hD hS hl
  unfold f_X7_place_10 at h
  refine lv_istore (lv' := [(4, .int s0), (0, .ref a0), (1, .int y1), (2, .int y2), (3, .int y3)]) hx hb dX7_place_10 hl (by decide) rfl (fun ls hl => ?_)
  refine lv_aload_n hx hb dX7_place_12 rfl (lv_at hl 1 rfl) ?_
  refine lv_iload_n hx hb dX7_place_13 rfl (lv_at hl 2 rfl) ?_
  refine lv_iload_n hx hb dX7_place_14 rfl (lv_at hl 3 rfl) ?_
  refine lv_iload_n hx hb dX7_place_15 rfl (lv_at hl 4 rfl) ?_
  refine lv_iload hx hb dX7_place_16 (lv_at hl 0 rfl) ?_
  refine lv_iconst (v := (-1)) hx hb dX7_place_18 (by decide) ?_
  obtain ⟨z19, hz19, h⟩ := o_b h
  refine k_v (wn := (ws_X7_place cI cJ cB a0 a_roots a_moved a_text a_out a_above a_below a_sum a_point a_pointRows a_pointSorts a_kind a_left a_right a_many a_bits a_rows a_table a_row thrown used rooted size outSize points takenOut great at_ fault open_ wrong by_ sort variable_ pointCount kind left_ right_ many bits rows table row)) (As := [.int y1, .int y2, .int y3, .int s0, .int (-1)]) (rest := []) F hNw hK hP hD hS hA (c_X7_hashOf l D cI cJ cB a0 a_kind a_left a_right a_many a_bits a_table a_roots a_moved a_text a_out a_above a_below a_sum a_point a_pointRows a_pointSorts a_rows a_row _ thrown used rooted size outSize points takenOut great at_ fault open_ wrong by_ sort variable_ pointCount rows row y1 y2 y3 s0 (-1) N hz19) wm_1086 cv_X7_hashOf [0, 6, 8] [1, 2, 3, 4, 5, 7] [6, 0, 1, 2, 3, 4, 7, 5, 8] (⟨rfl, rfl, rfl, by decide, rfl⟩ : Ix [0, 6, 8] [1, 2, 3, 4, 5, 7] [6, 0, 1, 2, 3, 4, 7, 5, 8] 9) rfl (hN_of 6 9 (by decide +kernel) rfl (by decide +kernel) rfl) rfl rfl rfl rfl ⟨rfl, rfl, by decide, by decide⟩ hl.1 rfl (Nat.le_of_ble_eq_true rfl) ⟨Nat.zero_le _, Nat.zero_le _⟩ dX7_place_19 (fun H locs hP hD hS => ?_)
  refine lv_istore (lv' := [(5, .int z19), (4, .int s0), (0, .ref a0), (1, .int y1), (2, .int y2), (3, .int y3)]) hx hb dX7_place_22 hl (by decide) rfl (fun ls hl => ?_)
  exact w_X7_place_24 CX hK hsz N used kind left_ right_ many bits rows table y1 y2 y3 s0 z19 _ _ _ h hP hD hS (lv_sub hl [2, 3, 4, 5, 1, 0] rfl)
end G_X7_place
set_option maxHeartbeats 4000000 in
set_option maxRecDepth 100000 in
theorem c_X7_place (l : Launch) (D : va_G) (cI cJ cB : ClassId) (a0 a_roots a_moved a_text a_out a_above a_below a_sum a_point a_pointRows a_pointSorts a_kind a_left a_right a_many a_bits a_rows a_table a_row : Nat) (sz : Nat) (thrown : Int32) (used : Int32) (rooted : Int32) (size : Int32) (outSize : Int32) (points : Int32) (takenOut : Int32) (great : Int32) (at_ : Int32) (fault : Int32) (open_ : Int32) (wrong : Int32) (by_ : Int64) (sort : Int32) (variable_ : Int32) (pointCount : Int32) (kind : Nat → Int32) (left_ : Nat → Int32) (right_ : Nat → Int32) (many : Nat → Int32) (bits : Nat → Int32) (rows : Nat → Int32) (table : Nat → Int32) (row : Nat → Int64) (x1 : Int32) (x2 : Int32) (x3 : Int32) (N : Nat) {z : Int32 × (Int32) × (Nat → Int32) × (Nat → Int32) × (Nat → Int32) × (Nat → Int32) × (Nat → Int32) × (Nat → Int32) × (Nat → Int32)} (h : f_X7_place N used kind left_ right_ many bits rows table row x1 x2 x3 = some z) : Mg l yX7_place cX7_place 9 (some .int) rm_X7_place D (ty0 cI cJ cB) [.ref a0, .int x1, .int x2, .int x3] sz (ws_X7_place cI cJ cB a0 a_roots a_moved a_text a_out a_above a_below a_sum a_point a_pointRows a_pointSorts a_kind a_left a_right a_many a_bits a_rows a_table a_row thrown used rooted size outSize points takenOut great at_ fault open_ wrong by_ sort variable_ pointCount kind left_ right_ many bits rows table row) (some (.int z.1)) (ws_X7_place cI cJ cB a0 a_roots a_moved a_text a_out a_above a_below a_sum a_point a_pointRows a_pointSorts a_kind a_left a_right a_many a_bits a_rows a_table a_row thrown z.2.1 rooted size outSize points takenOut great at_ fault open_ wrong by_ sort variable_ pointCount z.2.2.1 z.2.2.2.1 z.2.2.2.2.1 z.2.2.2.2.2.1 z.2.2.2.2.2.2.1 z.2.2.2.2.2.2.2.1 z.2.2.2.2.2.2.2.2 row) := by
  refine Mg.of (by decide) (Nat.le_of_ble_eq_true rfl) ?_
  intro p e s m below meth c CX hK hsz hP hD ls hl
  have CX : Cx p m c cX7_place 9 s ([.ref a0, .int x1, .int x2, .int x3] : List Value).toArray (Cond.code yX7_place cX7_place 9 (some .int)) RX7 meth (some .int) := CX
  obtain ⟨F, hr, hlk, hNw⟩ := id CX
  have hx := F.1
  have hb := F.2.1
  have hown := F.2.2.2.1
  have hl : lv_has ls 9 [(0, .ref a0), (1, .int x1), (2, .int x2), (3, .int x3)] := hl
  have hS : va_S (va_A (ws_X7_place cI cJ cB a0 a_roots a_moved a_text a_out a_above a_below a_sum a_point a_pointRows a_pointSorts a_kind a_left a_right a_many a_bits a_rows a_table a_row thrown used rooted size outSize points takenOut great at_ fault open_ wrong by_ sort variable_ pointCount kind left_ right_ many bits rows table row) sz) s.heap s.heap [] := va_S.rf
  have hA : ∀ q, s.heap.size ≤ q → va_A (ws_X7_place cI cJ cB a0 a_roots a_moved a_text a_out a_above a_below a_sum a_point a_pointRows a_pointSorts a_kind a_left a_right a_many a_bits a_rows a_table a_row thrown used rooted size outSize points takenOut great at_ fault open_ wrong by_ sort variable_ pointCount kind left_ right_ many bits rows table row) sz q := fun q hq => Or.inr (hsz ▸ hq)
  unfold f_X7_place at h
  refine lv_iload_n hx hb dX7_place_0 rfl (lv_at hl 1 rfl) ?_
  refine lv_iconst (v := 2) hx hb dX7_place_1 (by decide) ?_
  refine lv_icmp_ne (tgt := 9) hx hb dX7_place_2 (by decide) (fun c2 => ?_) (fun c2 => ?_)
  · have h := o_f c2 h
    refine lv_iconst (v := 0) hx hb dX7_place_9 (by decide) ?_
    exact w_X7_place_10 CX hK hsz used kind left_ right_ many bits rows table x1 x2 x3 0 _ _ _ h hP hD hS (lv_sub hl [0, 1, 2, 3] rfl)
  · have h := o_t c2 h
    refine lv_iconst (v := 1) hx hb dX7_place_5 (by decide) ?_
    refine lv_goto (tgt := 10) hx hb dX7_place_6 (by decide) ?_
    exact w_X7_place_10 CX hK hsz used kind left_ right_ many bits rows table x1 x2 x3 1 _ _ _ h hP hD hS (lv_sub hl [0, 1, 2, 3] rfl)
