/-! EARNED -/
abbrev eov (x y : Int64) : Prop := x.toInt + y.toInt < -9223372036854775808 ∨ 9223372036854775808 ≤ x.toInt + y.toInt
theorem eov_C (x y : Int64) : eov x y ↔ ((0 ≤ x ↔ 0 ≤ y) ∧ ¬ (0 ≤ x + y ↔ 0 ≤ x)) := by
  have a1 := Int64.le_toInt x
  have a2 := Int64.toInt_lt x
  have b1 := Int64.le_toInt y
  have b2 := Int64.toInt_lt y
  unfold eov
  rw [Int64.le_iff_toInt_le, Int64.le_iff_toInt_le, Int64.le_iff_toInt_le, Int64.toInt_add, Int64.toInt_zero, Int.bmod_def]
  generalize x.toInt = a at *
  generalize y.toInt = b at *
  split <;> omega
theorem eov_p {x y : Int64} (h : 0 < y) : (9223372036854775807 : Int64) - y < x ↔ eov x y := by
  have a1 := Int64.le_toInt x
  have a2 := Int64.toInt_lt x
  have b2 := Int64.toInt_lt y
  unfold eov
  rw [Int64.lt_iff_toInt_lt, Int64.toInt_zero] at h
  rw [Int64.lt_iff_toInt_lt, Int64.toInt_sub, show (9223372036854775807 : Int64).toInt = 9223372036854775807 from by decide, Int.bmod_def]
  generalize x.toInt = a at *
  generalize y.toInt = b at *
  split <;> omega
theorem eov_n {x y : Int64} (h : y < 0) : x < (-9223372036854775808 : Int64) - y ↔ eov x y := by
  have a1 := Int64.le_toInt x
  have a2 := Int64.toInt_lt x
  have b2 := Int64.le_toInt y
  unfold eov
  rw [Int64.lt_iff_toInt_lt, Int64.toInt_zero] at h
  rw [Int64.lt_iff_toInt_lt, Int64.toInt_sub, show (-9223372036854775808 : Int64).toInt = -9223372036854775808 from by decide, Int.bmod_def]
  generalize x.toInt = a at *
  generalize y.toInt = b at *
  split <;> omega
theorem eov_z {x y : Int64} (h1 : ¬ 0 < y) (h2 : ¬ y < 0) : ¬ eov x y := by
  have a1 := Int64.le_toInt x
  have a2 := Int64.toInt_lt x
  unfold eov
  rw [Int64.lt_iff_toInt_lt, Int64.toInt_zero] at h1 h2
  omega
theorem eov_0 (y : Int64) : ¬ eov 0 y := by
  have b1 := Int64.le_toInt y
  have b2 := Int64.toInt_lt y
  unfold eov
  rw [Int64.toInt_zero]
  omega
theorem earn_C (x y : Int64) (M : pm_M) : (pm_jn (fun (q18 : Int32) (M17 : pm_M) => pm_jn (fun (q21 : Int32) (M20 : pm_M) => pm_jn (fun (q24 : Int32) (M23 : pm_M) => if q24 = 0 then (some (x + y, M23)) else (pm_jn (fun (q27 : Int32) (M26 : pm_M) => pm_jn (fun (q30 : Int32) (M29 : pm_M) => if q27 = q30 then (some (x + y, M29)) else (some ((-4611686018427387904 : Int64), M29))) fun (j28 : Int32 → pm_M → Option (Int64 × pm_M)) => if 0 ≤ (lg_cmp x (0 : Int64)) then (j28 (0 : Int32) M26) else (j28 (1 : Int32) M26)) fun (j25 : Int32 → pm_M → Option (Int64 × pm_M)) => if 0 ≤ (lg_cmp (x + y) (0 : Int64)) then (j25 (0 : Int32) M23) else (j25 (1 : Int32) M23))) fun (j22 : Int32 → pm_M → Option (Int64 × pm_M)) => if ¬ q18 = q21 then (j22 (0 : Int32) M20) else (j22 (1 : Int32) M20)) fun (j19 : Int32 → pm_M → Option (Int64 × pm_M)) => if 0 ≤ (lg_cmp y (0 : Int64)) then (j19 (0 : Int32) M17) else (j19 (1 : Int32) M17)) fun (j16 : Int32 → pm_M → Option (Int64 × pm_M)) => if 0 ≤ (lg_cmp x (0 : Int64)) then (j16 (0 : Int32) M) else (j16 (1 : Int32) M)) = some (if eov x y then -4611686018427387904 else x + y, M) := by
  have e := eov_C x y
  simp only [q_jn, cmp_ge]
  have z01 : ((0 : Int32) = 1) = False := eq_false (by decide)
  have z10 : ((1 : Int32) = 0) = False := eq_false (by decide)
  have main : ∀ (P Q S : Prop) [Decidable P] [Decidable Q] [Decidable S] (ov : Prop) [Decidable ov], (ov ↔ ((P ↔ Q) ∧ ¬ (S ↔ P))) → ((if P then (if Q then (if ¬ (0 : Int32) = 0 then (if (0 : Int32) = 0 then some (x + y, M) else if S then (if P then (if (0 : Int32) = 0 then some (x + y, M) else some ((-4611686018427387904 : Int64), M)) else (if (0 : Int32) = 1 then some (x + y, M) else some ((-4611686018427387904 : Int64), M))) else (if P then (if (1 : Int32) = 0 then some (x + y, M) else some ((-4611686018427387904 : Int64), M)) else (if (1 : Int32) = 1 then some (x + y, M) else some ((-4611686018427387904 : Int64), M)))) else (if (1 : Int32) = 0 then some (x + y, M) else if S then (if P then (if (0 : Int32) = 0 then some (x + y, M) else some ((-4611686018427387904 : Int64), M)) else (if (0 : Int32) = 1 then some (x + y, M) else some ((-4611686018427387904 : Int64), M))) else (if P then (if (1 : Int32) = 0 then some (x + y, M) else some ((-4611686018427387904 : Int64), M)) else (if (1 : Int32) = 1 then some (x + y, M) else some ((-4611686018427387904 : Int64), M))))) else (if ¬ (0 : Int32) = 1 then (if (0 : Int32) = 0 then some (x + y, M) else if S then (if P then (if (0 : Int32) = 0 then some (x + y, M) else some ((-4611686018427387904 : Int64), M)) else (if (0 : Int32) = 1 then some (x + y, M) else some ((-4611686018427387904 : Int64), M))) else (if P then (if (1 : Int32) = 0 then some (x + y, M) else some ((-4611686018427387904 : Int64), M)) else (if (1 : Int32) = 1 then some (x + y, M) else some ((-4611686018427387904 : Int64), M)))) else (if (1 : Int32) = 0 then some (x + y, M) else if S then (if P then (if (0 : Int32) = 0 then some (x + y, M) else some ((-4611686018427387904 : Int64), M)) else (if (0 : Int32) = 1 then some (x + y, M) else some ((-4611686018427387904 : Int64), M))) else (if P then (if (1 : Int32) = 0 then some (x + y, M) else some ((-4611686018427387904 : Int64), M)) else (if (1 : Int32) = 1 then some (x + y, M) else some ((-4611686018427387904 : Int64), M)))))) else (if Q then (if ¬ (1 : Int32) = 0 then (if (0 : Int32) = 0 then some (x + y, M) else if S then (if P then (if (0 : Int32) = 0 then some (x + y, M) else some ((-4611686018427387904 : Int64), M)) else (if (0 : Int32) = 1 then some (x + y, M) else some ((-4611686018427387904 : Int64), M))) else (if P then (if (1 : Int32) = 0 then some (x + y, M) else some ((-4611686018427387904 : Int64), M)) else (if (1 : Int32) = 1 then some (x + y, M) else some ((-4611686018427387904 : Int64), M)))) else (if (1 : Int32) = 0 then some (x + y, M) else if S then (if P then (if (0 : Int32) = 0 then some (x + y, M) else some ((-4611686018427387904 : Int64), M)) else (if (0 : Int32) = 1 then some (x + y, M) else some ((-4611686018427387904 : Int64), M))) else (if P then (if (1 : Int32) = 0 then some (x + y, M) else some ((-4611686018427387904 : Int64), M)) else (if (1 : Int32) = 1 then some (x + y, M) else some ((-4611686018427387904 : Int64), M))))) else (if ¬ (1 : Int32) = 1 then (if (0 : Int32) = 0 then some (x + y, M) else if S then (if P then (if (0 : Int32) = 0 then some (x + y, M) else some ((-4611686018427387904 : Int64), M)) else (if (0 : Int32) = 1 then some (x + y, M) else some ((-4611686018427387904 : Int64), M))) else (if P then (if (1 : Int32) = 0 then some (x + y, M) else some ((-4611686018427387904 : Int64), M)) else (if (1 : Int32) = 1 then some (x + y, M) else some ((-4611686018427387904 : Int64), M)))) else (if (1 : Int32) = 0 then some (x + y, M) else if S then (if P then (if (0 : Int32) = 0 then some (x + y, M) else some ((-4611686018427387904 : Int64), M)) else (if (0 : Int32) = 1 then some (x + y, M) else some ((-4611686018427387904 : Int64), M))) else (if P then (if (1 : Int32) = 0 then some (x + y, M) else some ((-4611686018427387904 : Int64), M)) else (if (1 : Int32) = 1 then some (x + y, M) else some ((-4611686018427387904 : Int64), M))))))) = some (if ov then -4611686018427387904 else x + y, M)) := by
    intro P Q S _ _ _ ov _ e
    by_cases hx : P <;> by_cases hy : Q <;> by_cases hs : S <;> by_cases ho : ov <;> simp [hx, hy, hs, ho, z01, z10] at e ⊢
  exact main _ _ _ _ e
theorem earn_R {α : Type} (x y : Int64) (M : pm_M) (F : pm_M → Option α) (G : pm_M → Option α) : (pm_jn (fun (M12 : pm_M) => pm_jn (fun (M14 : pm_M) => F M14) fun (j13 : pm_M → Option α) => if 0 ≤ (lg_cmp y (0 : Int64)) then (j13 M12) else (if 0 ≤ (lg_cmp x ((-9223372036854775808 : Int64) - y)) then (j13 M12) else (G M12))) fun (j11 : pm_M → Option α) => if (lg_cmp y (0 : Int64)) ≤ 0 then (j11 M) else (if 0 < (lg_cmp x ((9223372036854775807 : Int64) - y)) then (G M) else (j11 M))) = if eov x y then G M else F M := by
  simp only [q_jn, cmp_ge, cmp_le, cmp_gt]
  by_cases h1 : 0 < y
  · rw [if_neg (Int64.not_le.mpr h1)]
    by_cases q : (9223372036854775807 : Int64) - y < x
    · rw [if_pos q, if_pos ((eov_p h1).mp q)]
    · rw [if_neg q, if_pos (Int64.le_of_lt h1), if_neg (fun z => q ((eov_p h1).mpr z))]
  rw [if_pos (Int64.not_lt.mp h1)]
  by_cases h2 : y < 0
  · rw [if_neg (Int64.not_le.mpr h2)]
    by_cases q : x < (-9223372036854775808 : Int64) - y
    · rw [if_neg (Int64.not_le.mpr q), if_pos ((eov_n h2).mp q)]
    · rw [if_pos (Int64.not_lt.mp q), if_neg (fun z => q ((eov_n h2).mpr z))]
  · rw [if_pos (Int64.not_lt.mp h2), if_neg (eov_z h1 h2)]
theorem earn_fit {n : Nat} (hn : n < 10 ^ 6) (p : Int64) : ∃ b : Int32, (b = 0 ∨ b = 1) ∧ (∀ M, sC_fitsTimes p (nI n) M = some (b, M)) ∧ ∀ M, sR_isProduct p (nI n) M = some (b, M) := by
  by_cases z : n = 0
  · refine ⟨1, Or.inr rfl, fun M => ?_, fun M => ?_⟩
    · unfold sC_fitsTimes
      rw [z, if_neg (by decide)]
    · unfold sR_isProduct
      rw [z, if_pos (show nI 0 = 0 from rfl)]
  · have hnz : ¬ (nI n).toInt64 = 0 := by
      rw [nI_toL (by omega)]
      intro q
      have := nL_toInt (show n < 2 ^ 63 by omega)
      rw [q, Int64.toInt_zero] at this
      omega
    have hz : ¬ nI n = 0 := by
      rw [q0]
      exact fun q => z ((nI_inj (by omega) (by omega)).mp q)
    have hp : 0 < nI n := by rw [q0, nI_lt_iff (by omega) (by omega)]; omega
    have e : ∀ M, sC_fitsTimes p (nI n) M = some (if (9223372036854775807 : Int64) / (nI n).toInt64 < p then 0 else if p < (-9223372036854775808 : Int64) / (nI n).toInt64 then 0 else 1, M) := by
      intro M
      unfold sC_fitsTimes
      rw [if_pos hp, if_pos hnz, if_pos hnz, ]
      simp only [cmp_gt, cmp_lt]
      split
      · rfl
      · split <;> rfl
    have e' : ∀ M, sR_isProduct p (nI n) M = sC_fitsTimes p (nI n) M := by
      intro M
      unfold sR_isProduct sC_fitsTimes
      rw [if_neg hz, if_pos hp]
    refine ⟨_, ?_, e, fun M => by rw [e', e]⟩
    split
    · exact Or.inl rfl
    · split
      · exact Or.inl rfl
      · exact Or.inr rfl
