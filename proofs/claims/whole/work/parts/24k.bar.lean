/-- the cells while they are filled: rows before i done, row i up to j less its total -/
def qfc (F : Nat → Int64) (a b : Nat → Nat → Int) (n i j : Nat) : Nat → Int64 := fun q => if q % 5 < n ∧ q / 5 < i then iL (a (q / 5) (q % 5)) else if q % 5 < n ∧ q / 5 = i ∧ q % 5 < j then iL (b (q / 5) (q % 5)) else F q
theorem qfc_0 (F : Nat → Int64) (a b : Nat → Nat → Int) (n : Nat) : qfc F a b n 0 0 = F := by
  funext q
  unfold qfc
  rw [if_neg (by omega), if_neg (by omega)]
theorem qfc_set (F : Nat → Int64) (a b : Nat → Nat → Int) {n i j : Nat} (hj : j < n) (hn : n ≤ 5) : vp_updL (qfc F a b n i j) (5 * i + j) (iL (b i j)) = qfc F a b n i (j + 1) := by
  funext q
  unfold vp_updL
  by_cases hq : q = 5 * i + j
  · have e1 : q / 5 = i := by omega
    have e2 : q % 5 = j := by omega
    rw [if_pos hq]
    unfold qfc
    rw [if_neg (by omega), if_pos (by omega), e1, e2]
  · rw [if_neg hq]
    unfold qfc
    by_cases h1 : q % 5 < n ∧ q / 5 < i
    · rw [if_pos h1, if_pos h1]
    · rw [if_neg h1, if_neg h1]
      by_cases h2 : q % 5 < n ∧ q / 5 = i ∧ q % 5 < j
      · rw [if_pos h2, if_pos (by omega)]
      · rw [if_neg h2, if_neg (by omega)]
theorem qfc_at (F : Nat → Int64) (a b : Nat → Nat → Int) {n i : Nat} (hi : i < n) (hn : n ≤ 5) : qfc F a b n i n (5 * i + i) = iL (b i i) := by
  unfold qfc
  have e1 : (5 * i + i) / 5 = i := by omega
  have e2 : (5 * i + i) % 5 = i := by omega
  rw [if_neg (by omega), if_pos (by omega), e1, e2]
theorem qfc_end (F : Nat → Int64) (a b : Nat → Nat → Int) {n i : Nat} (hi : i < n) (hn : n ≤ 5) (hab : ∀ j, j < n → j ≠ i → a i j = b i j) : vp_updL (qfc F a b n i n) (5 * i + i) (iL (a i i)) = qfc F a b n (i + 1) 0 := by
  funext q
  unfold vp_updL
  by_cases hq : q = 5 * i + i
  · have e1 : q / 5 = i := by omega
    have e2 : q % 5 = i := by omega
    rw [if_pos hq]
    unfold qfc
    rw [if_pos (by omega), e1, e2]
  · rw [if_neg hq]
    unfold qfc
    by_cases h1 : q % 5 < n ∧ q / 5 < i
    · rw [if_pos h1, if_pos (by omega)]
    · rw [if_neg h1]
      by_cases h2 : q % 5 < n ∧ q / 5 = i ∧ q % 5 < n
      · rw [if_pos h2, if_pos (by omega), h2.2.1, hab _ h2.1 (by omega)]
      · rw [if_neg h2, if_neg (by omega), if_neg (by omega)]
theorem qfc_all (F : Nat → Int64) (a b : Nat → Nat → Int) {n i j : Nat} (hi : i < n) (hj : j < n) (hn : n ≤ 5) : qfc F a b n n 0 (5 * i + j) = iL (a i j) := by
  unfold qfc
  have e1 : (5 * i + j) / 5 = i := by omega
  have e2 : (5 * i + j) % 5 = j := by omega
  rw [if_pos (by omega), e1, e2]
