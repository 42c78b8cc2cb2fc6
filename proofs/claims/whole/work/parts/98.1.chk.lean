/-! the tables of the methods 0 to 76 are what the bytes and the words say -/
set_option maxRecDepth 100000 in
theorem pm_ok0 : pm_chM 0 = true := by decide +kernel
set_option maxRecDepth 100000 in
theorem pm_ok1 : pm_chM 1 = true := by decide +kernel
set_option maxRecDepth 100000 in
theorem pm_ok2 : pm_chM 2 = true := by decide +kernel
set_option maxRecDepth 100000 in
theorem pm_ok3 : pm_chM 3 = true := by decide +kernel
set_option maxRecDepth 100000 in
theorem pm_ok4 : pm_chM 4 = true := by decide +kernel
set_option maxRecDepth 100000 in
theorem pm_ok5 : pm_chM 5 = true := by decide +kernel
set_option maxRecDepth 100000 in
theorem pm_ok6 : pm_chM 6 = true := by decide +kernel
set_option maxRecDepth 100000 in
theorem pm_ok7 : pm_chM 7 = true := by decide +kernel
set_option maxRecDepth 100000 in
theorem pm_ok8 : pm_chM 8 = true := by decide +kernel
set_option maxRecDepth 100000 in
theorem pm_ok9 : pm_chM 9 = true := by decide +kernel
set_option maxRecDepth 100000 in
theorem pm_ok10 : pm_chM 10 = true := by decide +kernel
set_option maxRecDepth 100000 in
theorem pm_ok11 : pm_chM 11 = true := by decide +kernel
set_option maxRecDepth 100000 in
theorem pm_ok12 : pm_chM 12 = true := by decide +kernel
set_option maxRecDepth 100000 in
theorem pm_ok13 : pm_chM 13 = true := by decide +kernel
set_option maxRecDepth 100000 in
theorem pm_ok14 : pm_chM 14 = true := by decide +kernel
set_option maxRecDepth 100000 in
theorem pm_ok15 : pm_chM 15 = true := by decide +kernel
set_option maxRecDepth 100000 in
theorem pm_ok16 : pm_chM 16 = true := by decide +kernel
set_option maxRecDepth 100000 in
theorem pm_ok17 : pm_chM 17 = true := by decide +kernel
set_option maxRecDepth 100000 in
theorem pm_ok18 : pm_chM 18 = true := by decide +kernel
set_option maxRecDepth 100000 in
theorem pm_ok19 : pm_chM 19 = true := by decide +kernel
set_option maxRecDepth 100000 in
theorem pm_ok20 : pm_chM 20 = true := by decide +kernel
set_option maxRecDepth 100000 in
theorem pm_ok21 : pm_chM 21 = true := by decide +kernel
set_option maxRecDepth 100000 in
theorem pm_ok22 : pm_chM 22 = true := by decide +kernel
set_option maxRecDepth 100000 in
theorem pm_ok23 : pm_chM 23 = true := by decide +kernel
set_option maxRecDepth 100000 in
theorem pm_ok24 : pm_chM 24 = true := by decide +kernel
set_option maxRecDepth 100000 in
theorem pm_ok25 : pm_chM 25 = true := by decide +kernel
set_option maxRecDepth 100000 in
theorem pm_ok26 : pm_chM 26 = true := by decide +kernel
set_option maxRecDepth 100000 in
theorem pm_ok27 : pm_chM 27 = true := by decide +kernel
set_option maxRecDepth 100000 in
theorem pm_ok28 : pm_chM 28 = true := by decide +kernel
set_option maxRecDepth 100000 in
theorem pm_ok29 : pm_chM 29 = true := by decide +kernel
set_option maxRecDepth 100000 in
theorem pm_ok30 : pm_chM 30 = true := by decide +kernel
set_option maxRecDepth 100000 in
theorem pm_ok31 : pm_chM 31 = true := by decide +kernel
set_option maxRecDepth 100000 in
theorem pm_ok32 : pm_chM 32 = true := by decide +kernel
set_option maxRecDepth 100000 in
theorem pm_ok33 : pm_chM 33 = true := by decide +kernel
set_option maxRecDepth 100000 in
theorem pm_ok34 : pm_chM 34 = true := by decide +kernel
set_option maxRecDepth 100000 in
theorem pm_ok35 : pm_chM 35 = true := by decide +kernel
set_option maxRecDepth 100000 in
theorem pm_ok36 : pm_chM 36 = true := by decide +kernel
set_option maxRecDepth 100000 in
theorem pm_ok37 : pm_chM 37 = true := by decide +kernel
set_option maxRecDepth 100000 in
theorem pm_ok38 : pm_chM 38 = true := by decide +kernel
set_option maxRecDepth 100000 in
theorem pm_ok39 : pm_chM 39 = true := by decide +kernel
set_option maxRecDepth 100000 in
theorem pm_ok40 : pm_chM 40 = true := by decide +kernel
set_option maxRecDepth 100000 in
theorem pm_ok41 : pm_chM 41 = true := by decide +kernel
set_option maxRecDepth 100000 in
theorem pm_ok42 : pm_chM 42 = true := by decide +kernel
set_option maxRecDepth 100000 in
theorem pm_ok43 : pm_chM 43 = true := by decide +kernel
set_option maxRecDepth 100000 in
theorem pm_ok44 : pm_chM 44 = true := by decide +kernel
set_option maxRecDepth 100000 in
theorem pm_ok45 : pm_chM 45 = true := by decide +kernel
set_option maxRecDepth 100000 in
theorem pm_ok46 : pm_chM 46 = true := by decide +kernel
set_option maxRecDepth 100000 in
theorem pm_ok47 : pm_chM 47 = true := by decide +kernel
set_option maxRecDepth 100000 in
theorem pm_ok48 : pm_chM 48 = true := by decide +kernel
set_option maxRecDepth 100000 in
theorem pm_ok49 : pm_chM 49 = true := by decide +kernel
set_option maxRecDepth 100000 in
theorem pm_ok50 : pm_chM 50 = true := by decide +kernel
set_option maxRecDepth 100000 in
theorem pm_ok51 : pm_chM 51 = true := by decide +kernel
set_option maxRecDepth 100000 in
theorem pm_ok52 : pm_chM 52 = true := by decide +kernel
set_option maxRecDepth 100000 in
theorem pm_ok53 : pm_chM 53 = true := by decide +kernel
set_option maxRecDepth 100000 in
theorem pm_ok54 : pm_chM 54 = true := by decide +kernel
set_option maxRecDepth 100000 in
theorem pm_ok55 : pm_chM 55 = true := by decide +kernel
set_option maxRecDepth 100000 in
theorem pm_ok56 : pm_chM 56 = true := by decide +kernel
set_option maxRecDepth 100000 in
theorem pm_ok57 : pm_chM 57 = true := by decide +kernel
set_option maxRecDepth 100000 in
theorem pm_ok58 : pm_chM 58 = true := by decide +kernel
set_option maxRecDepth 100000 in
theorem pm_ok59 : pm_chM 59 = true := by decide +kernel
set_option maxRecDepth 100000 in
theorem pm_ok60 : pm_chM 60 = true := by decide +kernel
set_option maxRecDepth 100000 in
theorem pm_ok61 : pm_chM 61 = true := by decide +kernel
set_option maxRecDepth 100000 in
theorem pm_ok62 : pm_chM 62 = true := by decide +kernel
set_option maxRecDepth 100000 in
theorem pm_ok63 : pm_chM 63 = true := by decide +kernel
set_option maxRecDepth 100000 in
theorem pm_ok64 : pm_chM 64 = true := by decide +kernel
set_option maxRecDepth 100000 in
theorem pm_ok65 : pm_chM 65 = true := by decide +kernel
set_option maxRecDepth 100000 in
theorem pm_ok66 : pm_chM 66 = true := by decide +kernel
set_option maxRecDepth 100000 in
theorem pm_ok67 : pm_chM 67 = true := by decide +kernel
set_option maxRecDepth 100000 in
theorem pm_ok68 : pm_chM 68 = true := by decide +kernel
set_option maxRecDepth 100000 in
theorem pm_ok69 : pm_chM 69 = true := by decide +kernel
set_option maxRecDepth 100000 in
theorem pm_ok70 : pm_chM 70 = true := by decide +kernel
set_option maxRecDepth 100000 in
theorem pm_ok71 : pm_chM 71 = true := by decide +kernel
set_option maxRecDepth 100000 in
theorem pm_ok72 : pm_chM 72 = true := by decide +kernel
set_option maxRecDepth 100000 in
theorem pm_ok73 : pm_chM 73 = true := by decide +kernel
set_option maxRecDepth 100000 in
theorem pm_ok74 : pm_chM 74 = true := by decide +kernel
set_option maxRecDepth 100000 in
theorem pm_ok75 : pm_chM 75 = true := by decide +kernel
set_option maxRecDepth 100000 in
theorem pm_ok76 : pm_chM 76 = true := by decide +kernel
