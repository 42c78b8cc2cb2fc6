/-! DETERMINANTS: the class's, by elimination -/
/-- the cells while stage k stands at row i, column j -/
def qel (f : Nat → Int64) (k : Nat) (p v : Int64) (n i j : Nat) : Nat → Int64 := fun q => if k < q / 5 ∧ k < q % 5 ∧ q % 5 < n ∧ (q / 5 < i ∨ (q / 5 = i ∧ q % 5 < j)) then (f q * p - f (q / 5 * 5 + k) * f (5 * k + q % 5)) / v else f q
theorem qel_0 (f : Nat → Int64) (k : Nat) (p v : Int64) (n j : Nat) (h : j ≤ k + 1) : qel f k p v n (k + 1) j = f := by
  funext q
  unfold qel
  rw [if_neg (by omega)]
theorem qel_row (f : Nat → Int64) (k : Nat) (p v : Int64) (n i : Nat) : qel f k p v n i n = qel f k p v n (i + 1) (k + 1) := by
  funext q
  unfold qel
  by_cases h : k < q / 5 ∧ k < q % 5 ∧ q % 5 < n ∧ (q / 5 < i ∨ (q / 5 = i ∧ q % 5 < n))
  · rw [if_pos h, if_pos (by omega)]
  · rw [if_neg h, if_neg (by omega)]
theorem qel_set (f : Nat → Int64) {k : Nat} (p v : Int64) {n i j : Nat} (hi : k < i) (hj : k < j) (hjn : j < n) (hn : n ≤ 5) : vp_updL (qel f k p v n i j) (5 * i + j) ((f (5 * i + j) * p - f (5 * i + k) * f (5 * k + j)) / v) = qel f k p v n i (j + 1) := by
  funext q
  unfold vp_updL
  by_cases hq : q = 5 * i + j
  · have e1 : q / 5 = i := by omega
    have e2 : q % 5 = j := by omega
    rw [if_pos hq]
    unfold qel
    rw [if_pos (by omega), e1, e2, hq, Nat.mul_comm i 5]
  · rw [if_neg hq]
    unfold qel
    by_cases h : k < q / 5 ∧ k < q % 5 ∧ q % 5 < n ∧ (q / 5 < i ∨ (q / 5 = i ∧ q % 5 < j))
    · rw [if_pos h, if_pos (by omega)]
    · rw [if_neg h, if_neg (by omega)]
theorem qel_c1 (f : Nat → Int64) {k : Nat} (p v : Int64) {n i j : Nat} (hj : j < 5) (hi : k < i) : qel f k p v n i j (5 * i + j) = f (5 * i + j) := by
  unfold qel; rw [if_neg (by omega)]
theorem qel_c2 (f : Nat → Int64) {k : Nat} (p v : Int64) {n i j : Nat} (hk : k < 5) : qel f k p v n i j (5 * i + k) = f (5 * i + k) := by
  unfold qel; rw [if_neg (by omega)]
theorem qel_c3 (f : Nat → Int64) {k : Nat} (p v : Int64) {n i j : Nat} (hj : j < 5) : qel f k p v n i j (5 * k + j) = f (5 * k + j) := by
  unfold qel; rw [if_neg (by omega)]
/-- the cells after stages, and the pivots -/
def qst (n : Nat) (f : Nat → Int64) : Nat → (Nat → Int64) × Int64
  | 0 => (f, 1)
  | k + 1 => (qel (qst n f k).1 k ((qst n f k).1 (6 * k)) (qst n f k).2 n n (k + 1), (qst n f k).1 (6 * k))
theorem Tours_determinant {M : pm_M} {n : Nat} (hn : n ≤ 5) (hp : ∀ k, k < n → (qst n (M.2 22) k).1 (6 * k) ≠ 0) : sTours_determinant (nI n) M = some ((qst n (M.2 22) n).2, mu_L M 22 (qst n (M.2 22) n).1) := by
  have h0 : M = mu_L M 22 (qst n (M.2 22) 0).1 := (uL_self M 22).symm
  unfold sTours_determinant
  generalize hf : M.2 22 = F0 at *
  rw [h0]
  refine q_for (fun k (g : Int64 → Int32 → pm_M → Option (Int64 × pm_M)) => g (qst n F0 k).2 (nI k) (mu_L M 22 (qst n F0 k).1)) (N := n) ?_ ?_ (by omega)
  · intro k hk g
    have hle : ¬ nI n ≤ nI k := by rw [nI_le_iff (by omega) (by omega)]; omega
    have hpk := hp k hk
    have hv : (qst n F0 k).2 ≠ 0 := by
      cases k with
      | zero => exact (by decide : (1 : Int64) ≠ 0)
      | succ m => exact hp m (by omega)
    have hn1 : qst n F0 (k + 1) = (qel (qst n F0 k).1 k ((qst n F0 k).1 (6 * k)) (qst n F0 k).2 n n (k + 1), (qst n F0 k).1 (6 * k)) := rfl
    rw [hn1]
    dsimp only
    generalize (qst n F0 k).1 = f at hpk
    generalize (qst n F0 k).2 = v at hv
    have e6 : nI k * 5 + nI k = nI (6 * k) := by rw [q5, nI_mul, nI_add]; congr 1; omega
    have hc : ¬ lg_cmp (f (6 * k)) 0 = 0 := by rw [cmp_eq]; exact hpk
    rw [if_neg hle, e6, if_pos (by rw [nI_in_iff (by omega)]; omega), nI_clamp (by omega), q_lt]
    simp only [uL_2, if_true]
    rw [if_pos hc, q_lt]
    generalize hpp : f (6 * k) = p
    rw [show nI k + 1 = nI (k + 1) from (nI_succ k).symm]
    rw [show mu_L M 22 f = mu_L M 22 (qel f k p v n (k + 1 + 0) (k + 1)) by rw [Nat.add_zero, qel_0 _ _ _ _ _ _ (Nat.le_refl _)], show nI (k + 1) = nI (k + 1 + 0) from rfl]
    refine q_for (fun i (g : Int32 → pm_M → Option (Int64 × pm_M)) => g (nI (k + 1 + i)) (mu_L M 22 (qel f k p v n (k + 1 + i) (k + 1)))) (N := n - (k + 1)) ?_ ?_ (by omega)
    · intro i hi g7
      have hle : ¬ nI n ≤ nI (k + 1 + i) := by rw [nI_le_iff (by omega) (by omega)]; omega
      rw [if_neg hle, q_lt]
      generalize hI : k + 1 + i = I
      have hI' : k + 1 + (i + 1) = I + 1 := by omega
      rw [hI']
      have hki : k < I := by omega
      have hin : I < n := by omega
      rw [show mu_L M 22 (qel f k p v n I (k + 1)) = mu_L M 22 (qel f k p v n I (k + 1 + 0)) from rfl]
      refine q_for (fun j (g : Int32 → pm_M → Option (Int64 × pm_M)) => g (nI (k + 1 + j)) (mu_L M 22 (qel f k p v n I (k + 1 + j)))) (N := n - (k + 1)) ?_ ?_ (by omega)
      · intro j hj g12
        have hle : ¬ nI n ≤ nI (k + 1 + j) := by rw [nI_le_iff (by omega) (by omega)]; omega
        generalize hJ : k + 1 + j = J at hle
        have hJ' : k + 1 + (j + 1) = J + 1 := by omega
        rw [hJ']
        have e1 : nI I * 5 + nI k = nI (5 * I + k) := by rw [q5, nI_mul, nI_add]; congr 1; omega
        have e2 : nI k * 5 + nI J = nI (5 * k + J) := by rw [q5, nI_mul, nI_add]; congr 1; omega
        have e3 : nI I * 5 + nI J = nI (5 * I + J) := by rw [q5, nI_mul, nI_add]; congr 1; omega
        have h1 : pm_in (nI (5 * I + k)) 25 := by rw [nI_in_iff (by omega)]; omega
        have h2 : pm_in (nI (5 * k + J)) 25 := by rw [nI_in_iff (by omega)]; omega
        have h3 : pm_in (nI (5 * I + J)) 25 := by rw [nI_in_iff (by omega)]; omega
        rw [if_neg hle, q_lt, e1, e2, e3, if_pos h1, if_pos h2, q_lt, if_pos h3, if_pos hv, if_pos h3, q_lt, q_lt, nI_clamp (by omega), nI_clamp (by omega), nI_clamp (by omega), ← nI_succ, sL_u, uL_uL]
        simp only [uL_2, if_true]
        rw [qel_c1 f p v (by omega) hki, qel_c2 f p v (by omega), qel_c3 f p v (by omega), qel_set f p v hki (by omega) (by omega) hn]
      · intro g12
        have hle : nI n ≤ nI (k + 1 + (n - (k + 1))) := by rw [nI_le_iff (by omega) (by omega)]; omega
        rw [if_pos hle, q_lt, ← nI_succ, show k + 1 + (n - (k + 1)) = n by omega, qel_row]
    · intro g7
      have hle : nI n ≤ nI (k + 1 + (n - (k + 1))) := by rw [nI_le_iff (by omega) (by omega)]; omega
      rw [if_pos hle, q_lt]
      rw [show k + 1 + (n - (k + 1)) = n by omega]
  · intro g
    rw [if_pos (Int32.le_refl _), uL_uL]
