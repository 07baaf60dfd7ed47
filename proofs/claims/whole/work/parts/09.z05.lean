set_option maxRecDepth 100000 in
theorem ok_157 : am_okM 157 mm_157 := ⟨⟨[[[], [429], [], [], [], [], [], [], [], [], [418], [], [], [], [430]], [[], [], [], [475, 476, 477, 103]], [[], [], [], [], [430]]], by decide +kernel⟩, by decide +kernel, by decide +kernel⟩
set_option maxRecDepth 100000 in
theorem ok_158 : am_okM 158 mm_158 := ⟨⟨[[[], [], [], [432], [], [], [406], [], [], [], [], [468, 469, 96]], [[], [], [432], [], [], [404]]], by decide +kernel⟩, by decide +kernel, by decide +kernel⟩
set_option maxRecDepth 100000 in
theorem ok_159 : am_okM 159 mm_159 := ⟨⟨[[], [], [[], [], [], [], [], [], [], [], [], [], [], [], [], [418]], [[219], [], [], [], [], [418], [], [], [240], [], [], [], [], [418]], [[217], [], [], [196], [], [], [1011, 1012, 116], [], [], [], [], [418], [], [], [244]], [[], [], [], [425], [], [], [], [], [421], [], [], [303]], [[432], [], [], [406]]], by decide +kernel⟩, by decide +kernel, by decide +kernel⟩
set_option maxRecDepth 100000 in
theorem ok_160 : am_okM 160 mm_160 := ⟨⟨[[[], [419], [], [], [], [418], [], [], [1232, 1233, 1234, 103], [], [], [], [], [420]]], by decide +kernel⟩, by decide +kernel, by decide +kernel⟩
set_option maxRecDepth 100000 in
theorem ok_161 : am_okM 161 mm_161 := ⟨⟨[[[], [420], [], [], [], [], [], [], [], [], [], [418], [], [], [], [419]], [[], [], [1232, 1233, 1234, 103], [], [], [], [418], [], [], [219]]], by decide +kernel⟩, by decide +kernel, by decide +kernel⟩
set_option maxRecDepth 100000 in
theorem ok_162 : am_okM 162 mm_162 := ⟨⟨[], by decide +kernel⟩, by decide +kernel, by decide +kernel⟩
set_option maxRecDepth 100000 in
theorem ok_163 : am_okM 163 mm_163 := ⟨⟨[], by decide +kernel⟩, by decide +kernel, by decide +kernel⟩
set_option maxRecDepth 100000 in
theorem ok_164 : am_okM 164 mm_164 := ⟨⟨[], by decide +kernel⟩, by decide +kernel, by decide +kernel⟩
set_option maxRecDepth 100000 in
theorem ok_165 : am_okM 165 mm_165 := ⟨⟨[[[], [], [], [], [], [], [], [], [], [1250], [], [], [], [], [1248]]], by decide +kernel⟩, by decide +kernel, by decide +kernel⟩
set_option maxRecDepth 100000 in
theorem ok_166 : am_okM 166 mm_166 := ⟨⟨[[[], [], [], [], [], [], [], [], [], [1248], [], [], [], [], [1250]]], by decide +kernel⟩, by decide +kernel, by decide +kernel⟩
set_option maxRecDepth 100000 in
theorem ok_167 : am_okM 167 mm_167 := ⟨⟨[[[], [1248]]], by decide +kernel⟩, by decide +kernel, by decide +kernel⟩
set_option maxRecDepth 100000 in
theorem ok_168 : am_okM 168 mm_168 := ⟨⟨[[[], [1248]]], by decide +kernel⟩, by decide +kernel, by decide +kernel⟩
set_option maxRecDepth 100000 in
theorem ok_169 : am_okM 169 mm_169 := ⟨⟨[[[], [], [], [1248], [], [], [], [], [], [], [], [1371, 1372, 109]]], by decide +kernel⟩, by decide +kernel, by decide +kernel⟩
set_option maxRecDepth 100000 in
theorem ok_170 : am_okM 170 mm_170 := ⟨⟨[[[], [], [], [1248], [], [], [], [], [], [1371, 1372, 109]]], by decide +kernel⟩, by decide +kernel, by decide +kernel⟩
set_option maxRecDepth 100000 in
theorem ok_171 : am_okM 171 mm_171 := ⟨⟨[[[], [1248], [], [], [], [], [], [1248]]], by decide +kernel⟩, by decide +kernel, by decide +kernel⟩
set_option maxRecDepth 100000 in
theorem ok_172 : am_okM 172 mm_172 := ⟨⟨[[[], [1248], [], [], [], [], [], [], [1248]]], by decide +kernel⟩, by decide +kernel, by decide +kernel⟩
set_option maxRecDepth 100000 in
theorem ok_173 : am_okM 173 mm_173 := ⟨⟨[], by decide +kernel⟩, by decide +kernel, by decide +kernel⟩
set_option maxRecDepth 100000 in
theorem ok_174 : am_okM 174 mm_174 := ⟨⟨[[[], [], [], [], [], [], [], [], [], [], [], [], [1486, 1487, 109]]], by decide +kernel⟩, by decide +kernel, by decide +kernel⟩
set_option maxRecDepth 100000 in
theorem ok_175 : am_okM 175 mm_175 := ⟨⟨[], by decide +kernel⟩, by decide +kernel, by decide +kernel⟩
set_option maxRecDepth 100000 in
theorem ok_176 : am_okM 176 mm_176 := ⟨⟨[[[], [], [], [1464, 1466, 52, 109], [], [], [], [], [], [1464, 1466, 52, 109], [], [], [], [1248]], [[], [], [1468, 1469, 109], [], [], [], [1248], [], [], [], [], [], [], [], [1464, 1466, 52, 109]], [[], [], [], [], [], [], [], [], [1464, 1466, 52, 109]]], by decide +kernel⟩, by decide +kernel, by decide +kernel⟩
set_option maxRecDepth 100000 in
theorem ok_177 : am_okM 177 mm_177 := ⟨⟨[[[], [], [], [1464, 1466, 52, 109]]], by decide +kernel⟩, by decide +kernel, by decide +kernel⟩
set_option maxRecDepth 100000 in
theorem ok_178 : am_okM 178 mm_178 := ⟨⟨[[[], [1248], [], [], [], [], [], [1248], [], [], [], [], [], [], [], [1464, 1466, 52, 109]]], by decide +kernel⟩, by decide +kernel, by decide +kernel⟩
set_option maxRecDepth 100000 in
theorem ok_179 : am_okM 179 mm_179 := ⟨⟨[[[], [], [], [], [], [1248]], [[], [], [], [], [], [1464, 1466, 52, 109]], [[], [], [1460, 1462, 51, 109], [], [], [], [], [], [], [], [], [], [], [], [1248]]], by decide +kernel⟩, by decide +kernel, by decide +kernel⟩
set_option maxRecDepth 100000 in
theorem ok_180 : am_okM 180 mm_180 := ⟨⟨[], by decide +kernel⟩, by decide +kernel, by decide +kernel⟩
set_option maxRecDepth 100000 in
theorem ok_181 : am_okM 181 mm_181 := ⟨⟨[[[], [1248]]], by decide +kernel⟩, by decide +kernel, by decide +kernel⟩
set_option maxRecDepth 100000 in
theorem ok_182 : am_okM 182 mm_182 := ⟨⟨[[[], [], [], [], [], [], [], [], [], [], [], [], [], [], [], [1479, 1481, 55, 109]], [[], [], [], [], [], [], [], [], [], [1479, 1481, 55, 109]], [[1248]], [[], [], [], [], [1252]], [[], [], [], [], [], [], [], [], [], [], [], [], [], [1493, 1495, 57, 109]], [], [[1252], [], [], [], [], [], [], [], [1252]], [[], [], [], [], [], [], [], [], [1252]], [[], [1252], [], [], [], [], [], [], [], [1252], [], [], [], [], [1497, 1498, 109]], [[], [], [], [], [], [], [], [], [], [], [], [], [], [1252]]], by decide +kernel⟩, by decide +kernel, by decide +kernel⟩
set_option maxRecDepth 100000 in
theorem ok_183 : am_okM 183 mm_183 := ⟨⟨[[[], [], [], [], [1248]], [[1464, 1466, 52, 109], [], [], [], [], [], [1479, 1481, 55, 109], [], [], [1483, 1484, 109]], [[], [], [1489, 1491, 56, 109], [], [], [], [], [], [], [], [], [1479, 1481, 55, 109]]], by decide +kernel⟩, by decide +kernel, by decide +kernel⟩
set_option maxRecDepth 100000 in
theorem ok_184 : am_okM 184 mm_184 := ⟨⟨[[[], [], [1254], [], [], [], [], [], [], [1253]]], by decide +kernel⟩, by decide +kernel, by decide +kernel⟩
set_option maxRecDepth 100000 in
theorem ok_185 : am_okM 185 mm_185 := ⟨⟨[[[], [1256], [], [], [], [1257]], [], [[], [1255], [], [], [], [], [], [], [], [], [], [], [1257]], [[], [], [1256], [], [], [], [], [], [], [], [1257], [], [], [], [], [1383, 1385, 36, 109]]], by decide +kernel⟩, by decide +kernel, by decide +kernel⟩
set_option maxRecDepth 100000 in
theorem ok_186 : am_okM 186 mm_186 := ⟨⟨[[[], [], [1256], [], [], [1383, 1385, 36, 109], [], [], [], [], [], [], [1371, 1372, 109]], [[], [], [], [], [1256], [], [], [], [], [1256]], [[], [], [1258]], [[1391, 1393, 38, 109], [], [], [], [], [], [], [], [], [], [], [1258], [], [], [1258]]], by decide +kernel⟩, by decide +kernel, by decide +kernel⟩
set_option maxRecDepth 100000 in
theorem ok_187 : am_okM 187 mm_187 := ⟨⟨[[[], [], [1259], [], [], [], [], [1256], [], [], [1383, 1385, 36, 109]], [[], [1371, 1372, 109], [], [], [], [], [], [], [], [1256], [], [], [], [1257]], [[], [], [], [], [], [], [], [], [1259], [], [], [], [], [], [1256]], [[], [1383, 1385, 36, 109], [], [], [], [], [], [], [], [], [], [], [1259], [], [], [1259]], [[], [], [], [], [1256], [], [], [], [], [1256]], [[], [1256], [], [], [], [1257]], [[], [], [], [], [1258]]], by decide +kernel⟩, by decide +kernel, by decide +kernel⟩
set_option maxRecDepth 100000 in
theorem ok_188 : am_okM 188 mm_188 := ⟨⟨[[[], [], [1256], [], [], [1383, 1385, 36, 109], [], [], [], [], [], [], [], [], [], [1256]], [[], [], [], [], [1256], [], [], [], [], [], [], [], [1256], [], [], [1257]], [[], [], [], [], [1256], [], [], [1383, 1385, 36, 109]], [[], [1258], [], [], [], [], [], [], [], [], [], [], [1371, 1372, 109]], [[], [], [], [1387, 1389, 37, 109], [], [], [], [], [], [], [], [], [], [], [1371, 1372, 109]], [[], [], [], [], [], [1395, 1397, 39, 109]], [[], [1258], [], [], [], [], [1256], [], [], [], [], [1256]]], by decide +kernel⟩, by decide +kernel, by decide +kernel⟩
set_option maxRecDepth 100000 in
theorem ok_189 : am_okM 189 mm_189 := ⟨⟨[[[], [1258]], [[], [], [], [1379, 1381, 35, 109]]], by decide +kernel⟩, by decide +kernel, by decide +kernel⟩
set_option maxRecDepth 100000 in
theorem ok_190 : am_okM 190 mm_190 := ⟨⟨[[[], [1262], [], [], [], [1261], [], [], [], [], [], [], [1261]], [[], [1261]]], by decide +kernel⟩, by decide +kernel, by decide +kernel⟩
set_option maxRecDepth 100000 in
theorem ok_191 : am_okM 191 mm_191 := ⟨⟨[[[], [1258], [], [], [], [], [], [], [], [], [1258]], [[], [1371, 1372, 109]], [[], [], [], [1258], [], [], [], [], [], [], [], [], [1259]], [[], [], [], [], [], [], [1258], [], [], [], [], [], [], [1431, 1433, 48, 109]], [[], [1379, 1381, 35, 109]]], by decide +kernel⟩, by decide +kernel, by decide +kernel⟩
set_option maxRecDepth 100000 in
theorem ok_192 : am_okM 192 mm_192 := ⟨⟨[[[], [1427, 1429, 47, 109], [], [], [], [], [], [], [], [], [1258]], [[], [], [], [], [], [], [], [], [], [], [1258]], [[], [], [], [], [], [], [], [], [], [], [1258]], [], [[], [], [1379, 1381, 35, 109], [], [], [], [1427, 1429, 47, 109]], [[1431, 1433, 48, 109]]], by decide +kernel⟩, by decide +kernel, by decide +kernel⟩
