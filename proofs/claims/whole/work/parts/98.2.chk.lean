/-! the tables of the methods 77 to 153 are what the bytes and the words say -/
set_option maxRecDepth 100000 in
theorem pm_ok77 : pm_chM 77 = true := by decide +kernel
set_option maxRecDepth 100000 in
theorem pm_ok78 : pm_chM 78 = true := by decide +kernel
set_option maxRecDepth 100000 in
theorem pm_ok79 : pm_chM 79 = true := by decide +kernel
set_option maxRecDepth 100000 in
theorem pm_ok80 : pm_chM 80 = true := by decide +kernel
set_option maxRecDepth 100000 in
theorem pm_ok81 : pm_chM 81 = true := by decide +kernel
set_option maxRecDepth 100000 in
theorem pm_ok82 : pm_chM 82 = true := by decide +kernel
set_option maxRecDepth 100000 in
theorem pm_ok83 : pm_chM 83 = true := by decide +kernel
set_option maxRecDepth 100000 in
theorem pm_ok84 : pm_chM 84 = true := by decide +kernel
set_option maxRecDepth 100000 in
theorem pm_ok85 : pm_chM 85 = true := by decide +kernel
set_option maxRecDepth 100000 in
theorem pm_ok86 : pm_chM 86 = true := by decide +kernel
set_option maxRecDepth 100000 in
theorem pm_ok87 : pm_chM 87 = true := by decide +kernel
set_option maxRecDepth 100000 in
theorem pm_ok88 : pm_chM 88 = true := by decide +kernel
set_option maxRecDepth 100000 in
theorem pm_ok89 : pm_chM 89 = true := by decide +kernel
set_option maxRecDepth 100000 in
theorem pm_ok90 : pm_chM 90 = true := by decide +kernel
set_option maxRecDepth 100000 in
theorem pm_ok91 : pm_chM 91 = true := by decide +kernel
set_option maxRecDepth 100000 in
theorem pm_ok92 : pm_chM 92 = true := by decide +kernel
set_option maxRecDepth 100000 in
theorem pm_ok93 : pm_chM 93 = true := by decide +kernel
set_option maxRecDepth 100000 in
theorem pm_ok94 : pm_chM 94 = true := by decide +kernel
set_option maxRecDepth 100000 in
theorem pm_ok95 : pm_chM 95 = true := by decide +kernel
set_option maxRecDepth 100000 in
theorem pm_ok96 : pm_chM 96 = true := by decide +kernel
set_option maxRecDepth 100000 in
theorem pm_ok97 : pm_chM 97 = true := by decide +kernel
set_option maxRecDepth 100000 in
theorem pm_ok98 : pm_chM 98 = true := by decide +kernel
set_option maxRecDepth 100000 in
theorem pm_ok99 : pm_chM 99 = true := by decide +kernel
set_option maxRecDepth 100000 in
theorem pm_ok100 : pm_chM 100 = true := by decide +kernel
set_option maxRecDepth 100000 in
theorem pm_ok101 : pm_chM 101 = true := by decide +kernel
set_option maxRecDepth 100000 in
theorem pm_ok102 : pm_chM 102 = true := by decide +kernel
set_option maxRecDepth 100000 in
theorem pm_ok103 : pm_chM 103 = true := by decide +kernel
set_option maxRecDepth 100000 in
theorem pm_ok104 : pm_chM 104 = true := by decide +kernel
set_option maxRecDepth 100000 in
theorem pm_ok105 : pm_chM 105 = true := by decide +kernel
set_option maxRecDepth 100000 in
theorem pm_ok106 : pm_chM 106 = true := by decide +kernel
set_option maxRecDepth 100000 in
theorem pm_ok107 : pm_chM 107 = true := by decide +kernel
set_option maxRecDepth 100000 in
theorem pm_ok108 : pm_chM 108 = true := by decide +kernel
set_option maxRecDepth 100000 in
theorem pm_ok109 : pm_chM 109 = true := by decide +kernel
set_option maxRecDepth 100000 in
theorem pm_ok110 : pm_chM 110 = true := by decide +kernel
set_option maxRecDepth 100000 in
theorem pm_ok111 : pm_chM 111 = true := by decide +kernel
set_option maxRecDepth 100000 in
theorem pm_ok112 : pm_chM 112 = true := by decide +kernel
set_option maxRecDepth 100000 in
theorem pm_ok113 : pm_chM 113 = true := by decide +kernel
set_option maxRecDepth 100000 in
theorem pm_ok114 : pm_chM 114 = true := by decide +kernel
set_option maxRecDepth 100000 in
theorem pm_ok115 : pm_chM 115 = true := by decide +kernel
set_option maxRecDepth 100000 in
theorem pm_ok116 : pm_chM 116 = true := by decide +kernel
set_option maxRecDepth 100000 in
theorem pm_ok117 : pm_chM 117 = true := by decide +kernel
set_option maxRecDepth 100000 in
theorem pm_ok118 : pm_chM 118 = true := by decide +kernel
set_option maxRecDepth 100000 in
theorem pm_ok119 : pm_chM 119 = true := by decide +kernel
set_option maxRecDepth 100000 in
theorem pm_ok120 : pm_chM 120 = true := by decide +kernel
set_option maxRecDepth 100000 in
theorem pm_ok121 : pm_chM 121 = true := by decide +kernel
set_option maxRecDepth 100000 in
theorem pm_ok122 : pm_chM 122 = true := by decide +kernel
set_option maxRecDepth 100000 in
theorem pm_ok123 : pm_chM 123 = true := by decide +kernel
set_option maxRecDepth 100000 in
theorem pm_ok124 : pm_chM 124 = true := by decide +kernel
set_option maxRecDepth 100000 in
theorem pm_ok125 : pm_chM 125 = true := by decide +kernel
set_option maxRecDepth 100000 in
theorem pm_ok126 : pm_chM 126 = true := by decide +kernel
set_option maxRecDepth 100000 in
theorem pm_ok127 : pm_chM 127 = true := by decide +kernel
set_option maxRecDepth 100000 in
theorem pm_ok128 : pm_chM 128 = true := by decide +kernel
set_option maxRecDepth 100000 in
theorem pm_ok129 : pm_chM 129 = true := by decide +kernel
set_option maxRecDepth 100000 in
theorem pm_ok130 : pm_chM 130 = true := by decide +kernel
set_option maxRecDepth 100000 in
theorem pm_ok131 : pm_chM 131 = true := by decide +kernel
set_option maxRecDepth 100000 in
theorem pm_ok132 : pm_chM 132 = true := by decide +kernel
set_option maxRecDepth 100000 in
theorem pm_ok133 : pm_chM 133 = true := by decide +kernel
set_option maxRecDepth 100000 in
theorem pm_ok134 : pm_chM 134 = true := by decide +kernel
set_option maxRecDepth 100000 in
theorem pm_ok135 : pm_chM 135 = true := by decide +kernel
set_option maxRecDepth 100000 in
theorem pm_ok136 : pm_chM 136 = true := by decide +kernel
set_option maxRecDepth 100000 in
theorem pm_ok137 : pm_chM 137 = true := by decide +kernel
set_option maxRecDepth 100000 in
theorem pm_ok138 : pm_chM 138 = true := by decide +kernel
set_option maxRecDepth 100000 in
theorem pm_ok139 : pm_chM 139 = true := by decide +kernel
set_option maxRecDepth 100000 in
theorem pm_ok140 : pm_chM 140 = true := by decide +kernel
set_option maxRecDepth 100000 in
theorem pm_ok141 : pm_chM 141 = true := by decide +kernel
set_option maxRecDepth 100000 in
theorem pm_ok142 : pm_chM 142 = true := by decide +kernel
set_option maxRecDepth 100000 in
theorem pm_ok143 : pm_chM 143 = true := by decide +kernel
set_option maxRecDepth 100000 in
theorem pm_ok144 : pm_chM 144 = true := by decide +kernel
set_option maxRecDepth 100000 in
theorem pm_ok145 : pm_chM 145 = true := by decide +kernel
set_option maxRecDepth 100000 in
theorem pm_ok146 : pm_chM 146 = true := by decide +kernel
set_option maxRecDepth 100000 in
theorem pm_ok147 : pm_chM 147 = true := by decide +kernel
set_option maxRecDepth 100000 in
theorem pm_ok148 : pm_chM 148 = true := by decide +kernel
set_option maxRecDepth 100000 in
theorem pm_ok149 : pm_chM 149 = true := by decide +kernel
set_option maxRecDepth 100000 in
theorem pm_ok150 : pm_chM 150 = true := by decide +kernel
set_option maxRecDepth 100000 in
theorem pm_ok151 : pm_chM 151 = true := by decide +kernel
set_option maxRecDepth 100000 in
theorem pm_ok152 : pm_chM 152 = true := by decide +kernel
set_option maxRecDepth 100000 in
theorem pm_ok153 : pm_chM 153 = true := by decide +kernel
