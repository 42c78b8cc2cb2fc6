/-! the tables of the methods 154 to 208 are what the bytes and the words say -/
set_option maxRecDepth 100000 in
theorem pm_ok154 : pm_chM 154 = true := by decide +kernel
set_option maxRecDepth 100000 in
theorem pm_ok155 : pm_chM 155 = true := by decide +kernel
set_option maxRecDepth 100000 in
theorem pm_ok156 : pm_chM 156 = true := by decide +kernel
set_option maxRecDepth 100000 in
theorem pm_ok157 : pm_chM 157 = true := by decide +kernel
set_option maxRecDepth 100000 in
theorem pm_ok158 : pm_chM 158 = true := by decide +kernel
set_option maxRecDepth 100000 in
theorem pm_ok159 : pm_chM 159 = true := by decide +kernel
set_option maxRecDepth 100000 in
theorem pm_ok160 : pm_chM 160 = true := by decide +kernel
set_option maxRecDepth 100000 in
theorem pm_ok161 : pm_chM 161 = true := by decide +kernel
set_option maxRecDepth 100000 in
theorem pm_ok162 : pm_chM 162 = true := by decide +kernel
set_option maxRecDepth 100000 in
theorem pm_ok163 : pm_chM 163 = true := by decide +kernel
set_option maxRecDepth 100000 in
theorem pm_ok164 : pm_chM 164 = true := by decide +kernel
set_option maxRecDepth 100000 in
theorem pm_ok165 : pm_chM 165 = true := by decide +kernel
set_option maxRecDepth 100000 in
theorem pm_ok166 : pm_chM 166 = true := by decide +kernel
set_option maxRecDepth 100000 in
theorem pm_ok167 : pm_chM 167 = true := by decide +kernel
set_option maxRecDepth 100000 in
theorem pm_ok168 : pm_chM 168 = true := by decide +kernel
set_option maxRecDepth 100000 in
theorem pm_ok169 : pm_chM 169 = true := by decide +kernel
set_option maxRecDepth 100000 in
theorem pm_ok170 : pm_chM 170 = true := by decide +kernel
set_option maxRecDepth 100000 in
theorem pm_ok171 : pm_chM 171 = true := by decide +kernel
set_option maxRecDepth 100000 in
theorem pm_ok172 : pm_chM 172 = true := by decide +kernel
set_option maxRecDepth 100000 in
theorem pm_ok173 : pm_chM 173 = true := by decide +kernel
set_option maxRecDepth 100000 in
theorem pm_ok174 : pm_chM 174 = true := by decide +kernel
set_option maxRecDepth 100000 in
theorem pm_ok175 : pm_chM 175 = true := by decide +kernel
set_option maxRecDepth 100000 in
theorem pm_ok176 : pm_chM 176 = true := by decide +kernel
set_option maxRecDepth 100000 in
theorem pm_ok177 : pm_chM 177 = true := by decide +kernel
set_option maxRecDepth 100000 in
theorem pm_ok178 : pm_chM 178 = true := by decide +kernel
set_option maxRecDepth 100000 in
theorem pm_ok179 : pm_chM 179 = true := by decide +kernel
set_option maxRecDepth 100000 in
theorem pm_ok180 : pm_chM 180 = true := by decide +kernel
set_option maxRecDepth 100000 in
theorem pm_ok181 : pm_chM 181 = true := by decide +kernel
set_option maxRecDepth 100000 in
theorem pm_ok182 : pm_chM 182 = true := by decide +kernel
set_option maxRecDepth 100000 in
theorem pm_ok183 : pm_chM 183 = true := by decide +kernel
set_option maxRecDepth 100000 in
theorem pm_ok184 : pm_chM 184 = true := by decide +kernel
set_option maxRecDepth 100000 in
theorem pm_ok185 : pm_chM 185 = true := by decide +kernel
set_option maxRecDepth 100000 in
theorem pm_ok186 : pm_chM 186 = true := by decide +kernel
set_option maxRecDepth 100000 in
theorem pm_ok187 : pm_chM 187 = true := by decide +kernel
set_option maxRecDepth 100000 in
theorem pm_ok188 : pm_chM 188 = true := by decide +kernel
set_option maxRecDepth 100000 in
theorem pm_ok189 : pm_chM 189 = true := by decide +kernel
set_option maxRecDepth 100000 in
theorem pm_ok190 : pm_chM 190 = true := by decide +kernel
set_option maxRecDepth 100000 in
theorem pm_ok191 : pm_chM 191 = true := by decide +kernel
set_option maxRecDepth 100000 in
theorem pm_ok192 : pm_chM 192 = true := by decide +kernel
set_option maxRecDepth 100000 in
theorem pm_ok193 : pm_chM 193 = true := by decide +kernel
set_option maxRecDepth 100000 in
theorem pm_ok194 : pm_chM 194 = true := by decide +kernel
set_option maxRecDepth 100000 in
theorem pm_ok195 : pm_chM 195 = true := by decide +kernel
set_option maxRecDepth 100000 in
theorem pm_ok196 : pm_chM 196 = true := by decide +kernel
set_option maxRecDepth 100000 in
theorem pm_ok197 : pm_chM 197 = true := by decide +kernel
set_option maxRecDepth 100000 in
theorem pm_ok198 : pm_chM 198 = true := by decide +kernel
set_option maxRecDepth 100000 in
theorem pm_ok199 : pm_chM 199 = true := by decide +kernel
set_option maxRecDepth 100000 in
theorem pm_ok200 : pm_chM 200 = true := by decide +kernel
set_option maxRecDepth 100000 in
theorem pm_ok201 : pm_chM 201 = true := by decide +kernel
set_option maxRecDepth 100000 in
theorem pm_ok202 : pm_chM 202 = true := by decide +kernel
set_option maxRecDepth 100000 in
theorem pm_ok203 : pm_chM 203 = true := by decide +kernel
set_option maxRecDepth 100000 in
theorem pm_ok204 : pm_chM 204 = true := by decide +kernel
set_option maxRecDepth 100000 in
theorem pm_ok205 : pm_chM 205 = true := by decide +kernel
set_option maxRecDepth 100000 in
theorem pm_ok206 : pm_chM 206 = true := by decide +kernel
set_option maxRecDepth 100000 in
theorem pm_ok207 : pm_chM 207 = true := by decide +kernel
set_option maxRecDepth 100000 in
theorem pm_ok208 : pm_chM 208 = true := by decide +kernel
theorem pm_okA : ∀ mid, mid + 1 < pm_MT.length → pm_chM mid = true := by
  intro mid h
  have h1 : pm_MT.length = 210 := by decide +kernel
  rw [h1] at h
  have h2 : mid < 209 := by omega
  clear h h1
  match mid, h2 with
  | 0, _ => exact pm_ok0
  | 1, _ => exact pm_ok1
  | 2, _ => exact pm_ok2
  | 3, _ => exact pm_ok3
  | 4, _ => exact pm_ok4
  | 5, _ => exact pm_ok5
  | 6, _ => exact pm_ok6
  | 7, _ => exact pm_ok7
  | 8, _ => exact pm_ok8
  | 9, _ => exact pm_ok9
  | 10, _ => exact pm_ok10
  | 11, _ => exact pm_ok11
  | 12, _ => exact pm_ok12
  | 13, _ => exact pm_ok13
  | 14, _ => exact pm_ok14
  | 15, _ => exact pm_ok15
  | 16, _ => exact pm_ok16
  | 17, _ => exact pm_ok17
  | 18, _ => exact pm_ok18
  | 19, _ => exact pm_ok19
  | 20, _ => exact pm_ok20
  | 21, _ => exact pm_ok21
  | 22, _ => exact pm_ok22
  | 23, _ => exact pm_ok23
  | 24, _ => exact pm_ok24
  | 25, _ => exact pm_ok25
  | 26, _ => exact pm_ok26
  | 27, _ => exact pm_ok27
  | 28, _ => exact pm_ok28
  | 29, _ => exact pm_ok29
  | 30, _ => exact pm_ok30
  | 31, _ => exact pm_ok31
  | 32, _ => exact pm_ok32
  | 33, _ => exact pm_ok33
  | 34, _ => exact pm_ok34
  | 35, _ => exact pm_ok35
  | 36, _ => exact pm_ok36
  | 37, _ => exact pm_ok37
  | 38, _ => exact pm_ok38
  | 39, _ => exact pm_ok39
  | 40, _ => exact pm_ok40
  | 41, _ => exact pm_ok41
  | 42, _ => exact pm_ok42
  | 43, _ => exact pm_ok43
  | 44, _ => exact pm_ok44
  | 45, _ => exact pm_ok45
  | 46, _ => exact pm_ok46
  | 47, _ => exact pm_ok47
  | 48, _ => exact pm_ok48
  | 49, _ => exact pm_ok49
  | 50, _ => exact pm_ok50
  | 51, _ => exact pm_ok51
  | 52, _ => exact pm_ok52
  | 53, _ => exact pm_ok53
  | 54, _ => exact pm_ok54
  | 55, _ => exact pm_ok55
  | 56, _ => exact pm_ok56
  | 57, _ => exact pm_ok57
  | 58, _ => exact pm_ok58
  | 59, _ => exact pm_ok59
  | 60, _ => exact pm_ok60
  | 61, _ => exact pm_ok61
  | 62, _ => exact pm_ok62
  | 63, _ => exact pm_ok63
  | 64, _ => exact pm_ok64
  | 65, _ => exact pm_ok65
  | 66, _ => exact pm_ok66
  | 67, _ => exact pm_ok67
  | 68, _ => exact pm_ok68
  | 69, _ => exact pm_ok69
  | 70, _ => exact pm_ok70
  | 71, _ => exact pm_ok71
  | 72, _ => exact pm_ok72
  | 73, _ => exact pm_ok73
  | 74, _ => exact pm_ok74
  | 75, _ => exact pm_ok75
  | 76, _ => exact pm_ok76
  | 77, _ => exact pm_ok77
  | 78, _ => exact pm_ok78
  | 79, _ => exact pm_ok79
  | 80, _ => exact pm_ok80
  | 81, _ => exact pm_ok81
  | 82, _ => exact pm_ok82
  | 83, _ => exact pm_ok83
  | 84, _ => exact pm_ok84
  | 85, _ => exact pm_ok85
  | 86, _ => exact pm_ok86
  | 87, _ => exact pm_ok87
  | 88, _ => exact pm_ok88
  | 89, _ => exact pm_ok89
  | 90, _ => exact pm_ok90
  | 91, _ => exact pm_ok91
  | 92, _ => exact pm_ok92
  | 93, _ => exact pm_ok93
  | 94, _ => exact pm_ok94
  | 95, _ => exact pm_ok95
  | 96, _ => exact pm_ok96
  | 97, _ => exact pm_ok97
  | 98, _ => exact pm_ok98
  | 99, _ => exact pm_ok99
  | 100, _ => exact pm_ok100
  | 101, _ => exact pm_ok101
  | 102, _ => exact pm_ok102
  | 103, _ => exact pm_ok103
  | 104, _ => exact pm_ok104
  | 105, _ => exact pm_ok105
  | 106, _ => exact pm_ok106
  | 107, _ => exact pm_ok107
  | 108, _ => exact pm_ok108
  | 109, _ => exact pm_ok109
  | 110, _ => exact pm_ok110
  | 111, _ => exact pm_ok111
  | 112, _ => exact pm_ok112
  | 113, _ => exact pm_ok113
  | 114, _ => exact pm_ok114
  | 115, _ => exact pm_ok115
  | 116, _ => exact pm_ok116
  | 117, _ => exact pm_ok117
  | 118, _ => exact pm_ok118
  | 119, _ => exact pm_ok119
  | 120, _ => exact pm_ok120
  | 121, _ => exact pm_ok121
  | 122, _ => exact pm_ok122
  | 123, _ => exact pm_ok123
  | 124, _ => exact pm_ok124
  | 125, _ => exact pm_ok125
  | 126, _ => exact pm_ok126
  | 127, _ => exact pm_ok127
  | 128, _ => exact pm_ok128
  | 129, _ => exact pm_ok129
  | 130, _ => exact pm_ok130
  | 131, _ => exact pm_ok131
  | 132, _ => exact pm_ok132
  | 133, _ => exact pm_ok133
  | 134, _ => exact pm_ok134
  | 135, _ => exact pm_ok135
  | 136, _ => exact pm_ok136
  | 137, _ => exact pm_ok137
  | 138, _ => exact pm_ok138
  | 139, _ => exact pm_ok139
  | 140, _ => exact pm_ok140
  | 141, _ => exact pm_ok141
  | 142, _ => exact pm_ok142
  | 143, _ => exact pm_ok143
  | 144, _ => exact pm_ok144
  | 145, _ => exact pm_ok145
  | 146, _ => exact pm_ok146
  | 147, _ => exact pm_ok147
  | 148, _ => exact pm_ok148
  | 149, _ => exact pm_ok149
  | 150, _ => exact pm_ok150
  | 151, _ => exact pm_ok151
  | 152, _ => exact pm_ok152
  | 153, _ => exact pm_ok153
  | 154, _ => exact pm_ok154
  | 155, _ => exact pm_ok155
  | 156, _ => exact pm_ok156
  | 157, _ => exact pm_ok157
  | 158, _ => exact pm_ok158
  | 159, _ => exact pm_ok159
  | 160, _ => exact pm_ok160
  | 161, _ => exact pm_ok161
  | 162, _ => exact pm_ok162
  | 163, _ => exact pm_ok163
  | 164, _ => exact pm_ok164
  | 165, _ => exact pm_ok165
  | 166, _ => exact pm_ok166
  | 167, _ => exact pm_ok167
  | 168, _ => exact pm_ok168
  | 169, _ => exact pm_ok169
  | 170, _ => exact pm_ok170
  | 171, _ => exact pm_ok171
  | 172, _ => exact pm_ok172
  | 173, _ => exact pm_ok173
  | 174, _ => exact pm_ok174
  | 175, _ => exact pm_ok175
  | 176, _ => exact pm_ok176
  | 177, _ => exact pm_ok177
  | 178, _ => exact pm_ok178
  | 179, _ => exact pm_ok179
  | 180, _ => exact pm_ok180
  | 181, _ => exact pm_ok181
  | 182, _ => exact pm_ok182
  | 183, _ => exact pm_ok183
  | 184, _ => exact pm_ok184
  | 185, _ => exact pm_ok185
  | 186, _ => exact pm_ok186
  | 187, _ => exact pm_ok187
  | 188, _ => exact pm_ok188
  | 189, _ => exact pm_ok189
  | 190, _ => exact pm_ok190
  | 191, _ => exact pm_ok191
  | 192, _ => exact pm_ok192
  | 193, _ => exact pm_ok193
  | 194, _ => exact pm_ok194
  | 195, _ => exact pm_ok195
  | 196, _ => exact pm_ok196
  | 197, _ => exact pm_ok197
  | 198, _ => exact pm_ok198
  | 199, _ => exact pm_ok199
  | 200, _ => exact pm_ok200
  | 201, _ => exact pm_ok201
  | 202, _ => exact pm_ok202
  | 203, _ => exact pm_ok203
  | 204, _ => exact pm_ok204
  | 205, _ => exact pm_ok205
  | 206, _ => exact pm_ok206
  | 207, _ => exact pm_ok207
  | 208, _ => exact pm_ok208
  | k + 209, h => exact absurd h (by omega)
