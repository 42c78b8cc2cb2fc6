set_option maxHeartbeats 400000 in
theorem qm4_id0 (a b c d e f g h i j k l m n o p : Int) :
  (a * (f * (k * p - l * o) - g * (j * p - l * n) + h * (j * o - k * n))
  - b * (e * (k * p - l * o) - g * (i * p - l * m) + h * (i * o - k * m))
  + c * (e * (j * p - l * n) - f * (i * p - l * m) + h * (i * n - j * m))
  - d * (e * (j * o - k * n) - f * (i * o - k * m) + g * (i * n - j * m))) * (a * f - e * b)
  = (a * (f * p - h * n) - b * (e * p - h * m) + d * (e * n - f * m)) * (a * (f * k - g * j) - b * (e * k - g * i) + c * (e * j - f * i))
  - (a * (f * o - g * n) - b * (e * o - g * m) + c * (e * n - f * m)) * (a * (f * l - h * j) - b * (e * l - h * i) + d * (e * j - f * i)) := by
  grind
theorem qm4_id (a : Nat → Nat → Int) : qm4 a * qm2 a 1 1 = qm3 a 3 3 * qm3 a 2 2 - qm3 a 3 2 * qm3 a 2 3 := qm4_id0 _ _ _ _ _ _ _ _ _ _ _ _ _ _ _ _
