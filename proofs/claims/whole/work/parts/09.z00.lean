set_option maxRecDepth 100000 in
theorem ok_0 : am_okM 0 mm_0 := ⟨⟨[[], [[], [], [], [], [954]]], by decide +kernel⟩, by decide +kernel, by decide +kernel⟩
set_option maxRecDepth 100000 in
theorem ok_1 : am_okM 1 mm_1 := ⟨⟨[[[], [], [], [], [1014], [], [], [], [], [], [], [1015]], [[], [], [1015], [], [], [], [], [], [], [], [], [], [], [1016]]], by decide +kernel⟩, by decide +kernel, by decide +kernel⟩
set_option maxRecDepth 100000 in
theorem ok_2 : am_okM 2 mm_2 := ⟨⟨[], by decide +kernel⟩, by decide +kernel, by decide +kernel⟩
set_option maxRecDepth 100000 in
theorem ok_3 : am_okM 3 mm_3 := ⟨⟨[[[], [], [], [503, 1860, 153, 504, 99, 0]]], by decide +kernel⟩, by decide +kernel, by decide +kernel⟩
set_option maxRecDepth 100000 in
theorem ok_4 : am_okM 4 mm_4 := ⟨⟨[[[], [], [533, 1862, 153, 534, 99, 0]]], by decide +kernel⟩, by decide +kernel, by decide +kernel⟩
set_option maxRecDepth 100000 in
theorem ok_5 : am_okM 5 mm_5 := ⟨⟨[[[], [], [], [1141, 1142, 1143, 108], [], [], [], [], [], [1145, 1146, 153, 1135, 97, 146]]], by decide +kernel⟩, by decide +kernel, by decide +kernel⟩
set_option maxRecDepth 100000 in
theorem ok_6 : am_okM 6 mm_6 := ⟨⟨[[[], [], [], [1141, 1142, 1143, 108], [], [], [], [], [], [1206, 1207, 153, 1200, 97, 146], [], [], [], [], [], [1209, 1210, 1163, 28, 1212, 1163, 99, 0, 0, 0, 0, 0, 0, 0, 0, 0, 0, 0, 0, 0, 0, 0, 0, 0, 0, 0, 0, 0, 0, 0, 0, 0, 0, 0, 0, 0, 0, 0, 0, 0, 0, 0, 0]]], by decide +kernel⟩, by decide +kernel, by decide +kernel⟩
set_option maxRecDepth 100000 in
theorem ok_7 : am_okM 7 mm_7 := ⟨⟨[[[], [], [180], [], [], [180], [], [], [], [], [183], [], [], [183]], [[], [], [186], [], [], [186], [], [], [], [], [189], [], [], [189]], [[], [], [193], [], [], [193], [], [], [], [], [194], [], [], [194]]], by decide +kernel⟩, by decide +kernel, by decide +kernel⟩
set_option maxRecDepth 100000 in
theorem ok_8 : am_okM 8 mm_8 := ⟨⟨[[[], [], [180], [], [], [], [], [183], [], [], [], [], [], [186]], [[], [], [189], [], [], [], [], [193], [], [], [], [], [194]]], by decide +kernel⟩, by decide +kernel, by decide +kernel⟩
set_option maxRecDepth 100000 in
theorem ok_9 : am_okM 9 mm_9 := ⟨⟨[[[], [193]]], by decide +kernel⟩, by decide +kernel, by decide +kernel⟩
set_option maxRecDepth 100000 in
theorem ok_10 : am_okM 10 mm_10 := ⟨⟨[[[], [], [193]], [[], [], [], [], [193]]], by decide +kernel⟩, by decide +kernel, by decide +kernel⟩
set_option maxRecDepth 100000 in
theorem ok_11 : am_okM 11 mm_11 := ⟨⟨[[[], [194]]], by decide +kernel⟩, by decide +kernel, by decide +kernel⟩
set_option maxRecDepth 100000 in
theorem ok_12 : am_okM 12 mm_12 := ⟨⟨[[[], [], [194], [], [], [], [], [], [], [], [], [], [], [], [], [194]]], by decide +kernel⟩, by decide +kernel, by decide +kernel⟩
set_option maxRecDepth 100000 in
theorem ok_13 : am_okM 13 mm_13 := ⟨⟨[[[], [], [], [], [], [], [], [], [], [], [], [], [637, 481, 482, 104]]], by decide +kernel⟩, by decide +kernel, by decide +kernel⟩
set_option maxRecDepth 100000 in
theorem ok_14 : am_okM 14 mm_14 := ⟨⟨[[[], [], [405], [], [], [], [], [400]]], by decide +kernel⟩, by decide +kernel, by decide +kernel⟩
set_option maxRecDepth 100000 in
theorem ok_15 : am_okM 15 mm_15 := ⟨⟨[[[], [], [394], [], [], [], [], [396]]], by decide +kernel⟩, by decide +kernel, by decide +kernel⟩
set_option maxRecDepth 100000 in
theorem ok_16 : am_okM 16 mm_16 := ⟨⟨[[[], [400], [], [], [], [], [], [], [405], [], [], [], [403]], [[], [], [], [], [403], [], [], [], [405], [], [], [], [], [], [], [405]], [[], [], [], [], [405]]], by decide +kernel⟩, by decide +kernel, by decide +kernel⟩
set_option maxRecDepth 100000 in
theorem ok_17 : am_okM 17 mm_17 := ⟨⟨[[[], [], [], [510, 499, 160, 497, 97, 0]]], by decide +kernel⟩, by decide +kernel, by decide +kernel⟩
set_option maxRecDepth 100000 in
theorem ok_18 : am_okM 18 mm_18 := ⟨⟨[[[], [], [], [540, 529, 160, 527, 97, 0]]], by decide +kernel⟩, by decide +kernel, by decide +kernel⟩
set_option maxRecDepth 100000 in
theorem ok_19 : am_okM 19 mm_19 := ⟨⟨[[[], [], [], [1187, 1142, 1143, 108], [], [], [], [], [], [1188, 1182, 160, 1180, 97, 0]]], by decide +kernel⟩, by decide +kernel, by decide +kernel⟩
set_option maxRecDepth 100000 in
theorem ok_20 : am_okM 20 mm_20 := ⟨⟨[], by decide +kernel⟩, by decide +kernel, by decide +kernel⟩
set_option maxRecDepth 100000 in
theorem ok_21 : am_okM 21 mm_21 := ⟨⟨[], by decide +kernel⟩, by decide +kernel, by decide +kernel⟩
set_option maxRecDepth 100000 in
theorem ok_22 : am_okM 22 mm_22 := ⟨⟨[[[], [], [], [1157, 1142, 1143, 108], [], [], [], [], [395]]], by decide +kernel⟩, by decide +kernel, by decide +kernel⟩
set_option maxRecDepth 100000 in
theorem ok_23 : am_okM 23 mm_23 := ⟨⟨[[[], [], [], [1157, 1142, 1143, 108], [], [], [], [], [], [1178, 1137, 1135, 22, 1138, 1139, 100, 0, 0, 0, 0, 0, 0, 1148, 1135, 97, 1136, 1135, 97, 1149, 1135, 97, 0, 0, 0, 0, 0, 0, 0, 0, 0, 1150, 1151, 98, 1155, 1135, 97, 0, 0, 0, 0, 0, 0]]], by decide +kernel⟩, by decide +kernel, by decide +kernel⟩
set_option maxRecDepth 100000 in
theorem ok_24 : am_okM 24 mm_24 := ⟨⟨[[[], [], [], [1157, 1142, 1143, 108], [], [], [], [399], [], [], [], [], [], [395]], [[], [], [], [], [], [], [], [], [401]]], by decide +kernel⟩, by decide +kernel, by decide +kernel⟩
set_option maxRecDepth 100000 in
theorem ok_25 : am_okM 25 mm_25 := ⟨⟨[[[], [], [], [1157, 1142, 1143, 108], [], [], [], [], [], [1218, 1161, 1159, 23, 1162, 1163, 99, 0, 0, 0, 0, 0, 0, 1167, 1159, 97, 1160, 1159, 97, 1168, 1163, 99, 0, 0, 0, 0, 0, 0, 0, 0, 0, 1169, 1159, 97, 1170, 1171, 102, 0, 0, 0, 0, 0, 0], [], [], [], [], [], [1219, 1182, 1180, 24, 1183, 1180, 97, 0, 0, 0, 0, 0, 0, 1184, 1185, 101, 1181, 1180, 97, 1189, 1180, 97, 0, 0, 0, 0, 0, 0, 0, 0, 0, 1190, 1180, 97, 1191, 1192, 102, 0, 0, 0, 0, 0, 0]]], by decide +kernel⟩, by decide +kernel, by decide +kernel⟩
set_option maxRecDepth 100000 in
theorem ok_26 : am_okM 26 mm_26 := ⟨⟨[[[], [], [], [506, 499, 146, 497, 97, 0]]], by decide +kernel⟩, by decide +kernel, by decide +kernel⟩
set_option maxRecDepth 100000 in
theorem ok_27 : am_okM 27 mm_27 := ⟨⟨[[[], [], [536, 529, 146, 527, 97, 0]]], by decide +kernel⟩, by decide +kernel, by decide +kernel⟩
set_option maxRecDepth 100000 in
theorem ok_28 : am_okM 28 mm_28 := ⟨⟨[[[], [], [], [1165, 1142, 1143, 108], [], [], [], [], [], [1166, 1161, 146, 1159, 97, 0], [], [], [], [397]]], by decide +kernel⟩, by decide +kernel, by decide +kernel⟩
set_option maxRecDepth 100000 in
theorem ok_29 : am_okM 29 mm_29 := ⟨⟨[[[], [343], [], [], [], [], [], [342], [], [], [216], [], [], [915, 835, 836, 104]], [[], [], [], [916, 563, 110, 564], [], [], [], [342], [], [], [], [342], [], [], [216]], [[], [917, 839, 840, 103], [], [], [916, 563, 110, 564], [], [], [346]]], by decide +kernel⟩, by decide +kernel, by decide +kernel⟩
set_option maxRecDepth 100000 in
theorem ok_30 : am_okM 30 mm_30 := ⟨⟨[[[], [], [911, 913, 21, 107], [], [], [], [], [345], [], [], [], [], [348]], [[], [350], [], [], [], [], [354], [], [], [], [], [356]], [[], [918, 920, 22, 107]]], by decide +kernel⟩, by decide +kernel, by decide +kernel⟩
set_option maxRecDepth 100000 in
theorem ok_31 : am_okM 31 mm_31 := ⟨⟨[[[], [], [346], [], [], [], [], [], [], [], [343]], [[922, 924, 23, 107], [], [], [], [], [343]], [[], [], [], [342], [], [], [220], [], [], [], [], [], [], [344]], [[], [], [], [], [], [], [343], [], [], [], [], [915, 835, 836, 104], [], [], [], [342]], [[], [], [], [], [], [927, 807, 808, 103]], [[], [], [], [], [], [], [], [], [], [918, 920, 22, 107]]], by decide +kernel⟩, by decide +kernel, by decide +kernel⟩
set_option maxRecDepth 100000 in
theorem ok_32 : am_okM 32 mm_32 := ⟨⟨[[[], [190], [], [], [], [343], [], [], [], [], [190]], [[], [348], [], [], [], [], [], [], [], [348], [], [], [], [], [350]], [[], [], [344], [], [], [], [], [352], [], [], [], [], [346], [], [], [926, 790, 789, 115]], [[], [], [], [], [348], [], [], [], [], [], [], [], [350]], [[], [350], [], [], [], [], [356], [], [], [], [195], [], [], [], [356]], [[], [], [195], [], [], [], [345], [], [], [], [], [345]], [[], [], [], [], [], [], [], [], [], [], [], [], [], [], [354]], [[], [], [], [], [], [], [354], [], [], [], [], [], [], [], [354]]], by decide +kernel⟩, by decide +kernel, by decide +kernel⟩
set_option maxRecDepth 100000 in
theorem ok_33 : am_okM 33 mm_33 := ⟨⟨[[[], [], [911, 913, 21, 107], [], [], [], [], [358], [], [], [], [], [963, 965, 25, 107]]], by decide +kernel⟩, by decide +kernel, by decide +kernel⟩
set_option maxRecDepth 100000 in
theorem ok_34 : am_okM 34 mm_34 := ⟨⟨[[[], [], [346]], [[], [], [], [], [], [], [], [343]], [[], [], [], [], [], [], [], [], [342], [], [], [220]], [[], [], [], [343], [], [], [], [], [915, 835, 836, 104], [], [], [], [342]], [[], [], [927, 807, 808, 103], [], [], [], [], [], [], [963, 965, 25, 107]], [], [], [[], [], [], [], [358]]], by decide +kernel⟩, by decide +kernel, by decide +kernel⟩
set_option maxRecDepth 100000 in
theorem ok_35 : am_okM 35 mm_35 := ⟨⟨[[[], [215], [], [], [], [215], [], [], [1236, 835, 836, 104], [], [], [], [], [218]], [[218], [], [], [], [221], [], [], [], [221], [], [], [785, 786, 103], [], [], [], [223]], [[], [], [], [223], [], [], [785, 786, 103], [], [], [], [225], [], [], [], [225]], [[], [785, 786, 103], [], [], [], [227], [], [], [], [227], [], [], [785, 786, 103]], [[229], [], [], [], [229], [], [], [785, 786, 103], [], [], [], [231], [], [], [], [231]], [[], [], [785, 786, 103], [], [], [], [233], [], [], [], [233], [], [], [785, 786, 103]], [[], [], [235], [], [], [235], [], [], [], [], [237], [], [], [237]], [[], [], [241], [], [], [], [239], [], [], [1237, 782, 783, 103], [], [], [], [], [243]], [[], [243], [], [], [], [245], [], [], [], [245], [], [], [785, 786, 103]], [[247], [], [], [], [247], [], [], [785, 786, 103], [], [], [], [249], [], [], [], [249]], [[], [], [785, 786, 103], [], [], [], [251], [], [], [], [251], [], [], [785, 786, 103]]], by decide +kernel⟩, by decide +kernel, by decide +kernel⟩
set_option maxRecDepth 100000 in
theorem ok_36 : am_okM 36 mm_36 := ⟨⟨[[[], [], [], [], [], [], [], [], [562, 563, 110, 564], [], [], [788, 790, 789, 115]]], by decide +kernel⟩, by decide +kernel, by decide +kernel⟩
set_option maxRecDepth 100000 in
theorem ok_37 : am_okM 37 mm_37 := ⟨⟨[[[], [], [241], [], [], [785, 786, 103], [], [], [], [], [239]]], by decide +kernel⟩, by decide +kernel, by decide +kernel⟩
set_option maxRecDepth 100000 in
theorem ok_38 : am_okM 38 mm_38 := ⟨⟨[[[], [], [], [218], [], [], [], [], [479, 469, 96]]], by decide +kernel⟩, by decide +kernel, by decide +kernel⟩
set_option maxRecDepth 100000 in
theorem ok_39 : am_okM 39 mm_39 := ⟨⟨[[[], [], [], [218], [], [], [479, 469, 96]]], by decide +kernel⟩, by decide +kernel, by decide +kernel⟩
set_option maxRecDepth 100000 in
theorem ok_40 : am_okM 40 mm_40 := ⟨⟨[[[], [181], [], [], [], [235]]], by decide +kernel⟩, by decide +kernel, by decide +kernel⟩
set_option maxRecDepth 100000 in
theorem ok_41 : am_okM 41 mm_41 := ⟨⟨[[[], [], [235], [], [], [], [181], [], [], [], [522, 523, 110, 524]]], by decide +kernel⟩, by decide +kernel, by decide +kernel⟩
set_option maxRecDepth 100000 in
theorem ok_42 : am_okM 42 mm_42 := ⟨⟨[[[], [214], [], [], [], [221]]], by decide +kernel⟩, by decide +kernel, by decide +kernel⟩
set_option maxRecDepth 100000 in
theorem ok_43 : am_okM 43 mm_43 := ⟨⟨[[[], [], [233], [], [], [], [227]]], by decide +kernel⟩, by decide +kernel, by decide +kernel⟩
set_option maxRecDepth 100000 in
theorem ok_44 : am_okM 44 mm_44 := ⟨⟨[[[], [], [492, 493, 494, 103], [], [], [], [225], [], [], [], [], [], [181], [], [], [496, 499, 497, 20, 500, 501, 100, 0, 0, 0, 0, 0, 0, 507, 508, 101, 498, 497, 97, 511, 504, 99, 0, 0, 0, 0, 0, 0, 0, 0, 0, 512, 513, 98, 516, 517, 102, 0, 0, 0, 0, 0, 0]], [[], [], [], [231], [], [], [], [227]], [[], [], [], [], [521, 481, 482, 104], [], [], [], [], [522, 523, 110, 524]]], by decide +kernel⟩, by decide +kernel, by decide +kernel⟩
set_option maxRecDepth 100000 in
theorem ok_45 : am_okM 45 mm_45 := ⟨⟨[], by decide +kernel⟩, by decide +kernel, by decide +kernel⟩
