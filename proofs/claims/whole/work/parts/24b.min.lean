/-- minors, written out -/
def qm2 (a : Nat → Nat → Int) (i j : Nat) : Int := a 0 0 * a i j - a i 0 * a 0 j
def qm3 (a : Nat → Nat → Int) (i j : Nat) : Int := a 0 0 * (a 1 1 * a i j - a 1 j * a i 1) - a 0 1 * (a 1 0 * a i j - a 1 j * a i 0) + a 0 j * (a 1 0 * a i 1 - a 1 1 * a i 0)
def qm4 (a : Nat → Nat → Int) : Int := a 0 0 * (a 1 1 * (a 2 2 * a 3 3 - a 2 3 * a 3 2) - a 1 2 * (a 2 1 * a 3 3 - a 2 3 * a 3 1) + a 1 3 * (a 2 1 * a 3 2 - a 2 2 * a 3 1))
  - a 0 1 * (a 1 0 * (a 2 2 * a 3 3 - a 2 3 * a 3 2) - a 1 2 * (a 2 0 * a 3 3 - a 2 3 * a 3 0) + a 1 3 * (a 2 0 * a 3 2 - a 2 2 * a 3 0))
  + a 0 2 * (a 1 0 * (a 2 1 * a 3 3 - a 2 3 * a 3 1) - a 1 1 * (a 2 0 * a 3 3 - a 2 3 * a 3 0) + a 1 3 * (a 2 0 * a 3 1 - a 2 1 * a 3 0))
  - a 0 3 * (a 1 0 * (a 2 1 * a 3 2 - a 2 2 * a 3 1) - a 1 1 * (a 2 0 * a 3 2 - a 2 2 * a 3 0) + a 1 2 * (a 2 0 * a 3 1 - a 2 1 * a 3 0))
set_option maxHeartbeats 400000 in
theorem qm3_id0 (a b c d e f g h i : Int) : (a * (e * i - f * h) - b * (d * i - f * g) + c * (d * h - e * g)) * a = (a * i - g * c) * (a * e - d * b) - (a * h - g * b) * (a * f - d * c) := by
  grind
theorem qm3_id (a : Nat → Nat → Int) (i j : Nat) : qm3 a i j * a 0 0 = qm2 a i j * qm2 a 1 1 - qm2 a i 1 * qm2 a 1 j := qm3_id0 _ _ _ _ _ _ _ _ _
