/-! EARNED -/
abbrev eov (x y : Int64) : Prop := x.toInt + y.toInt < -9223372036854775808 ∨ 9223372036854775808 ≤ x.toInt + y.toInt
theorem eov_C (x y : Int64) : eov x y ↔ ((0 ≤ x ↔ 0 ≤ y) ∧ ¬ (0 ≤ x + y ↔ 0 ≤ x)) := by
  have a1 := Int64.le_toInt x
  have a2 := Int64.toInt_lt x
  have b1 := Int64.le_toInt y
  have b2 := Int64.toInt_lt y
  unfold eov
  rw [Int64.le_iff_toInt_le, Int64.le_iff_toInt_le, Int64.le_iff_toInt_le, Int64.toInt_add, Int64.toInt_zero, Int.bmod_def]
  generalize x.toInt = a at *
  generalize y.toInt = b at *
  split <;> omega
theorem eov_p {x y : Int64} (h : 0 < y) : (9223372036854775807 : Int64) - y < x ↔ eov x y := by
  have a1 := Int64.le_toInt x
  have a2 := Int64.toInt_lt x
  have b2 := Int64.toInt_lt y
  unfold eov
  rw [Int64.lt_iff_toInt_lt, Int64.toInt_zero] at h
  rw [Int64.lt_iff_toInt_lt, Int64.toInt_sub, show (9223372036854775807 : Int64).toInt = 9223372036854775807 from by decide, Int.bmod_def]
  generalize x.toInt = a at *
  generalize y.toInt = b at *
  split <;> omega
theorem eov_n {x y : Int64} (h : y < 0) : x < (-9223372036854775808 : Int64) - y ↔ eov x y := by
  have a1 := Int64.le_toInt x
  have a2 := Int64.toInt_lt x
  have b2 := Int64.le_toInt y
  unfold eov
  rw [Int64.lt_iff_toInt_lt, Int64.toInt_zero] at h
  rw [Int64.lt_iff_toInt_lt, Int64.toInt_sub, show (-9223372036854775808 : Int64).toInt = -9223372036854775808 from by decide, Int.bmod_def]
  generalize x.toInt = a at *
  generalize y.toInt = b at *
  split <;> omega
theorem eov_z {x y : Int64} (h1 : ¬ 0 < y) (h2 : ¬ y < 0) : ¬ eov x y := by
  have a1 := Int64.le_toInt x
  have a2 := Int64.toInt_lt x
  unfold eov
  rw [Int64.lt_iff_toInt_lt, Int64.toInt_zero] at h1 h2
  omega
theorem eov_0 (y : Int64) : ¬ eov 0 y := by
  have b1 := Int64.le_toInt y
  have b2 := Int64.toInt_lt y
  unfold eov
  rw [Int64.toInt_zero]
  omega
theorem earn_C (x y : Int64) (M : pm_M) : (pm_jn (fun (q18 : Int32) (M17 : pm_M) => pm_jn (fun (q21 : Int32) (M20 : pm_M) => pm_jn (fun (q24 : Int32) (M23 : pm_M) => if q24 = 0 then (some (x + y, M23)) else (pm_jn (fun (q27 : Int32) (M26 : pm_M) => pm_jn (fun (q30 : Int32) (M29 : pm_M) => if q27 = q30 then (some (x + y, M29)) else (some ((-4611686018427387904 : Int64), M29))) fun (j28 : Int32 → pm_M → Option (Int64 × pm_M)) => if 0 ≤ (lg_cmp x (0 : Int64)) then (j28 (0 : Int32) M26) else (j28 (1 : Int32) M26)) fun (j25 : Int32 → pm_M → Option (Int64 × pm_M)) => if 0 ≤ (lg_cmp (x + y) (0 : Int64)) then (j25 (0 : Int32) M23) else (j25 (1 : Int32) M23))) fun (j22 : Int32 → pm_M → Option (Int64 × pm_M)) => if ¬ q18 = q21 then (j22 (0 : Int32) M20) else (j22 (1 : Int32) M20)) fun (j19 : Int32 → pm_M → Option (Int64 × pm_M)) => if 0 ≤ (lg_cmp y (0 : Int64)) then (j19 (0 : Int32) M17) else (j19 (1 : Int32) M17)) fun (j16 : Int32 → pm_M → Option (Int64 × pm_M)) => if 0 ≤ (lg_cmp x (0 : Int64)) then (j16 (0 : Int32) M) else (j16 (1 : Int32) M)) = some (if eov x y then -4611686018427387904 else x + y, M) := by
  have e := eov_C x y
  simp only [q_jn, cmp_ge]
  have z01 : ((0 : Int32) = 1) = False := eq_false (by decide)
  have z10 : ((1 : Int32) = 0) = False := eq_false (by decide)
  have main : ∀ (P Q S : Prop) [Decidable P] [Decidable Q] [Decidable S] (ov : Prop) [Decidable ov], (ov ↔ ((P ↔ Q) ∧ ¬ (S ↔ P))) → ((if P then (if Q then (if ¬ (0 : Int32) = 0 then (if (0 : Int32) = 0 then some (x + y, M) else if S then (if P then (if (0 : Int32) = 0 then some (x + y, M) else some ((-4611686018427387904 : Int64), M)) else (if (0 : Int32) = 1 then some (x + y, M) else some ((-4611686018427387904 : Int64), M))) else (if P then (if (1 : Int32) = 0 then some (x + y, M) else some ((-4611686018427387904 : Int64), M)) else (if (1 : Int32) = 1 then some (x + y, M) else some ((-4611686018427387904 : Int64), M)))) else (if (1 : Int32) = 0 then some (x + y, M) else if S then (if P then (if (0 : Int32) = 0 then some (x + y, M) else some ((-4611686018427387904 : Int64), M)) else (if (0 : Int32) = 1 then some (x + y, M) else some ((-4611686018427387904 : Int64), M))) else (if P then (if (1 : Int32) = 0 then some (x + y, M) else some ((-4611686018427387904 : Int64), M)) else (if (1 : Int32) = 1 then some (x + y, M) else some ((-4611686018427387904 : Int64), M))))) else (if ¬ (0 : Int32) = 1 then (if (0 : Int32) = 0 then some (x + y, M) else if S then (if P then (if (0 : Int32) = 0 then some (x + y, M) else some ((-4611686018427387904 : Int64), M)) else (if (0 : Int32) = 1 then some (x + y, M) else some ((-4611686018427387904 : Int64), M))) else (if P then (if (1 : Int32) = 0 then some (x + y, M) else some ((-4611686018427387904 : Int64), M)) else (if (1 : Int32) = 1 then some (x + y, M) else some ((-4611686018427387904 : Int64), M)))) else (if (1 : Int32) = 0 then some (x + y, M) else if S then (if P then (if (0 : Int32) = 0 then some (x + y, M) else some ((-4611686018427387904 : Int64), M)) else (if (0 : Int32) = 1 then some (x + y, M) else some ((-4611686018427387904 : Int64), M))) else (if P then (if (1 : Int32) = 0 then some (x + y, M) else some ((-4611686018427387904 : Int64), M)) else (if (1 : Int32) = 1 then some (x + y, M) else some ((-4611686018427387904 : Int64), M)))))) else (if Q then (if ¬ (1 : Int32) = 0 then (if (0 : Int32) = 0 then some (x + y, M) else if S then (if P then (if (0 : Int32) = 0 then some (x + y, M) else some ((-4611686018427387904 : Int64), M)) else (if (0 : Int32) = 1 then some (x + y, M) else some ((-4611686018427387904 : Int64), M))) else (if P then (if (1 : Int32) = 0 then some (x + y, M) else some ((-4611686018427387904 : Int64), M)) else (if (1 : Int32) = 1 then some (x + y, M) else some ((-4611686018427387904 : Int64), M)))) else (if (1 : Int32) = 0 then some (x + y, M) else if S then (if P then (if (0 : Int32) = 0 then some (x + y, M) else some ((-4611686018427387904 : Int64), M)) else (if (0 : Int32) = 1 then some (x + y, M) else some ((-4611686018427387904 : Int64), M))) else (if P then (if (1 : Int32) = 0 then some (x + y, M) else some ((-4611686018427387904 : Int64), M)) else (if (1 : Int32) = 1 then some (x + y, M) else some ((-4611686018427387904 : Int64), M))))) else (if ¬ (1 : Int32) = 1 then (if (0 : Int32) = 0 then some (x + y, M) else if S then (if P then (if (0 : Int32) = 0 then some (x + y, M) else some ((-4611686018427387904 : Int64), M)) else (if (0 : Int32) = 1 then some (x + y, M) else some ((-4611686018427387904 : Int64), M))) else (if P then (if (1 : Int32) = 0 then some (x + y, M) else some ((-4611686018427387904 : Int64), M)) else (if (1 : Int32) = 1 then some (x + y, M) else some ((-4611686018427387904 : Int64), M)))) else (if (1 : Int32) = 0 then some (x + y, M) else if S then (if P then (if (0 : Int32) = 0 then some (x + y, M) else some ((-4611686018427387904 : Int64), M)) else (if (0 : Int32) = 1 then some (x + y, M) else some ((-4611686018427387904 : Int64), M))) else (if P then (if (1 : Int32) = 0 then some (x + y, M) else some ((-4611686018427387904 : Int64), M)) else (if (1 : Int32) = 1 then some (x + y, M) else some ((-4611686018427387904 : Int64), M))))))) = some (if ov then -4611686018427387904 else x + y, M)) := by
    intro P Q S _ _ _ ov _ e
    by_cases hx : P <;> by_cases hy : Q <;> by_cases hs : S <;> by_cases ho : ov <;> simp [hx, hy, hs, ho, z01, z10] at e ⊢
  exact main _ _ _ _ e
theorem earn_R {α : Type} (x y : Int64) (M : pm_M) (F : pm_M → Option α) (G : pm_M → Option α) : (pm_jn (fun (M12 : pm_M) => pm_jn (fun (M14 : pm_M) => F M14) fun (j13 : pm_M → Option α) => if 0 ≤ (lg_cmp y (0 : Int64)) then (j13 M12) else (if 0 ≤ (lg_cmp x ((-9223372036854775808 : Int64) - y)) then (j13 M12) else (G M12))) fun (j11 : pm_M → Option α) => if (lg_cmp y (0 : Int64)) ≤ 0 then (j11 M) else (if 0 < (lg_cmp x ((9223372036854775807 : Int64) - y)) then (G M) else (j11 M))) = if eov x y then G M else F M := by
  simp only [q_jn, cmp_ge, cmp_le, cmp_gt]
  by_cases h1 : 0 < y
  · rw [if_neg (Int64.not_le.mpr h1)]
    by_cases q : (9223372036854775807 : Int64) - y < x
    · rw [if_pos q, if_pos ((eov_p h1).mp q)]
    · rw [if_neg q, if_pos (Int64.le_of_lt h1), if_neg (fun z => q ((eov_p h1).mpr z))]
  rw [if_pos (Int64.not_lt.mp h1)]
  by_cases h2 : y < 0
  · rw [if_neg (Int64.not_le.mpr h2)]
    by_cases q : x < (-9223372036854775808 : Int64) - y
    · rw [if_neg (Int64.not_le.mpr q), if_pos ((eov_n h2).mp q)]
    · rw [if_pos (Int64.not_lt.mp q), if_neg (fun z => q ((eov_n h2).mpr z))]
  · rw [if_pos (Int64.not_lt.mp h2), if_neg (eov_z h1 h2)]
theorem earn_fit {n : Nat} (hn : n < 10 ^ 6) (p : Int64) : ∃ b : Int32, (b = 0 ∨ b = 1) ∧ (∀ M, sC_fitsTimes p (nI n) M = some (b, M)) ∧ ∀ M, sR_isProduct p (nI n) M = some (b, M) := by
  by_cases z : n = 0
  · refine ⟨1, Or.inr rfl, fun M => ?_, fun M => ?_⟩
    · unfold sC_fitsTimes
      rw [z, if_neg (by decide)]
    · unfold sR_isProduct
      rw [z, if_pos (show nI 0 = 0 from rfl)]
  · have hnz : ¬ (nI n).toInt64 = 0 := by
      rw [nI_toL (by omega)]
      intro q
      have := nL_toInt (show n < 2 ^ 63 by omega)
      rw [q, Int64.toInt_zero] at this
      omega
    have hz : ¬ nI n = 0 := by
      rw [q0]
      exact fun q => z ((nI_inj (by omega) (by omega)).mp q)
    have hp : 0 < nI n := by rw [q0, nI_lt_iff (by omega) (by omega)]; omega
    have e : ∀ M, sC_fitsTimes p (nI n) M = some (if (9223372036854775807 : Int64) / (nI n).toInt64 < p then 0 else if p < (-9223372036854775808 : Int64) / (nI n).toInt64 then 0 else 1, M) := by
      intro M
      unfold sC_fitsTimes
      rw [if_pos hp, if_pos hnz, if_pos hnz, ]
      simp only [cmp_gt, cmp_lt]
      split
      · rfl
      · split <;> rfl
    have e' : ∀ M, sR_isProduct p (nI n) M = sC_fitsTimes p (nI n) M := by
      intro M
      unfold sR_isProduct sC_fitsTimes
      rw [if_neg hz, if_pos hp]
    refine ⟨_, ?_, e, fun M => by rw [e', e]⟩
    split
    · exact Or.inl rfl
    · split
      · exact Or.inl rfl
      · exact Or.inr rfl
theorem earn_home {t : Nat} {M : pm_M} (h : qInv t M) (ht : t ≤ 1000) {c : Nat} (hc : c < 2) : ∃ n, n < 10 ^ 6 ∧ sC_homePasses (nI c) M = some (nI n, M) ∧ ∀ {α : Type} (j : Int32 → pm_M → Option α), (if ¬ (M.1 52 c) = (-1 : Int32) then (if pm_in (nI c) 2 then (if pm_in (((5 : Int32) * nI c) + (M.1 52 c)) 10 then (j ((M.1 69 (((5 : Int32) * nI c) + (M.1 52 c)).toNatClampNeg)) M) else none) else none) else (j (0 : Int32) M)) = j (nI n) M := by
  obtain ⟨d, ⟨hd, hC, hR, -⟩, -, -, -, h5, -⟩ := id h
  have hS := hd.1
  have hH := hd.2.2.2.2.1 c hc
  have hin2 : pm_in (nI c) 2 := by rw [nI_in_iff (by omega)]; exact hc
  by_cases z : qH d c = 0
  · refine ⟨0, by decide, ?_, ?_⟩
    · unfold sC_homePasses
      rw [if_pos hin2, nI_cl c (by omega), q_lt, hC.2.2.2.1, z, Net_hasStation hd hC, q_bd, b2i_f (show ¬ pm_in (hI 0) (qS d) from fun q => absurd (pm_in_toInt.mp q).1 (by decide)), if_pos rfl]
      rfl
    · intro α j
      rw [hR.2.2.2.1, z, if_neg (fun q => q (show hI 0 = -1 from rfl))]
      rfl
  · obtain ⟨e, n, hn, hp⟩ := tr_pas h5 (show 5 * c + (qH d c - 1) < 10 by omega)
    refine ⟨n, by omega, ?_, ?_⟩
    · unfold sC_homePasses
      rw [if_pos hin2, nI_cl c (by omega), q_lt, hC.2.2.2.1, hI_pos z, Net_hasStation hd hC, q_bd, b2i_t (by rw [nI_in_iff (by omega)]; omega), if_neg (by decide), qcs', if_pos (by rw [nI_in_iff (by omega)]; omega), nI_cl _ (by omega), hp]
    · intro α j
      rw [hR.2.2.2.1, if_pos (fun q => z ((hI_m1 (by omega)).mp q)), if_pos hin2, hI_pos z, qcs, if_pos (by rw [nI_in_iff (by omega)]; omega), nI_cl _ (by omega), ← e, hp]
theorem earn_step {t : Nat} {M : pm_M} (h : qInv t M) (ht : t ≤ 1000) {c : Nat} (hc : c < 2) : ∃ n b, sC_homePasses (nI c) M = some (nI n, M) ∧ (b = 0 ∨ b = 1) ∧ sC_fitsTimes (M.2 7 c) (nI n) M = some (b, M) ∧ ∀ (x3 : Int64) (g : Int64 → Int32 → pm_M → Option (Int64 × pm_M)), (fun (g1 : Int64 → Int32 → pm_M → Option (Int64 × pm_M)) x3 x4 M2 => if (2 : Int32) ≤ x4 then (some (x3, M2)) else (if pm_in x4 2 then (pm_jn (fun (q7 : Int32) (M6 : pm_M) => if pm_in x4 2 then (pm_bd (sR_isProduct (M6.2 55 x4.toNatClampNeg) q7 M6) fun v9 M8 => if ¬ v9 = 0 then (if pm_in x4 2 then (pm_lt (((M8.2 55 x4.toNatClampNeg) * q7.toInt64)) fun x10 => pm_jn (fun (M12 : pm_M) => pm_jn (fun (M14 : pm_M) => pm_lt ((x3 + x10)) fun x15 => pm_lt ((x4 + (1 : Int32))) fun x16 => g1 x15 x16 M14) fun (j13 : pm_M → Option (Int64 × pm_M)) => if 0 ≤ (lg_cmp x10 (0 : Int64)) then (j13 M12) else (if 0 ≤ (lg_cmp x3 ((-9223372036854775808 : Int64) - x10)) then (j13 M12) else (some ((-4611686018427387904 : Int64), M12)))) fun (j11 : pm_M → Option (Int64 × pm_M)) => if (lg_cmp x10 (0 : Int64)) ≤ 0 then (j11 M8) else (if 0 < (lg_cmp x3 ((9223372036854775807 : Int64) - x10)) then (some ((-4611686018427387904 : Int64), M8)) else (j11 M8))) else none) else (some ((-4611686018427387904 : Int64), M8))) else none) fun (j5 : Int32 → pm_M → Option (Int64 × pm_M)) => if ¬ (M2.1 52 x4.toNatClampNeg) = (-1 : Int32) then (if pm_in x4 2 then (if pm_in (((5 : Int32) * x4) + (M2.1 52 x4.toNatClampNeg)) 10 then (j5 ((M2.1 69 (((5 : Int32) * x4) + (M2.1 52 x4.toNatClampNeg)).toNatClampNeg)) M2) else none) else none) else (j5 (0 : Int32) M2)) else none)) g x3 (nI c) M = if b = 0 then some (-4611686018427387904, M) else if eov x3 (M.2 7 c * (nI n).toInt64) then some (-4611686018427387904, M) else g (x3 + M.2 7 c * (nI n).toInt64) (nI (c + 1)) M := by
  obtain ⟨n, hn, e1, e2⟩ := earn_home h ht hc
  obtain ⟨b, hb, f1, f2⟩ := earn_fit hn (M.2 7 c)
  obtain ⟨d, -, -, h3, -⟩ := id h
  have hin2 : pm_in (nI c) 2 := by rw [nI_in_iff (by omega)]; exact hc
  have hck : (nI c).toNatClampNeg = c := nI_cl c (by omega)
  refine ⟨n, b, e1, hb, f1 M, fun x3 g => ?_⟩
  dsimp only
  rw [if_neg (by rw [q2, nI_le_iff (by omega) (by omega)]; omega), if_pos hin2]
  simp only [hck]
  refine q_jk (fun r => r = if b = 0 then some (-4611686018427387904, M) else if eov x3 (M.2 7 c * (nI n).toInt64) then some (-4611686018427387904, M) else g (x3 + M.2 7 c * (nI n).toInt64) (nI (c + 1)) M) (fun (j : Int32 → pm_M → Option (Int64 × pm_M)) => j (nI n) M = if b = 0 then some (-4611686018427387904, M) else if eov x3 (M.2 7 c * (nI n).toInt64) then some (-4611686018427387904, M) else g (x3 + M.2 7 c * (nI n).toInt64) (nI (c + 1)) M) ?_ (fun j hj => (e2 j).trans hj)
  simp only [eq_true hin2, if_true, hck, ← h3 c hc]
  rw [f2, q_bd]
  rcases hb with rfl | rfl
  · rw [if_neg (fun q => q rfl), if_pos rfl]
  · rw [if_pos (by decide), if_neg (by decide), ← h3 c hc, q_lt]
    refine (earn_R x3 (M.2 7 c * (nI n).toInt64) M (fun M14 => pm_lt ((x3 + M.2 7 c * (nI n).toInt64)) fun x15 => pm_lt ((nI c + (1 : Int32))) fun x16 => g x15 x16 M14) (fun M12 => some ((-4611686018427387904 : Int64), M12))).trans ?_
    rw [q_lt, q_lt, ← nI_succ]
theorem I_earned {t : Nat} {M : pm_M} (h : qInv t M) (ht : t ≤ 1000) : qBo t sC_earned sR_earned M := by
  refine qBo_pur h ?_
  obtain ⟨n0, b0, e0, hb0, f0, s0⟩ := earn_step h ht (show 0 < 2 by omega)
  obtain ⟨n1, b1, e1, hb1, f1, s1⟩ := earn_step h ht (show 1 < 2 by omega)
  rw [← q0] at e0
  rw [← q1] at e1
  refine ⟨if b0 = 0 then -4611686018427387904 else if b1 = 0 then -4611686018427387904 else if eov (M.2 7 0 * (nI n0).toInt64) (M.2 7 1 * (nI n1).toInt64) then -4611686018427387904 else M.2 7 0 * (nI n0).toInt64 + M.2 7 1 * (nI n1).toInt64, M, M, ?_, ?_, qScr_rf⟩
  · unfold sC_earned
    rw [e0, q_bd, f0, q_bd]
    by_cases z0 : b0 = 0
    · rw [if_pos z0, if_pos z0]
    rw [if_neg z0, if_neg z0, e1, q_bd, f1, q_bd]
    by_cases z1 : b1 = 0
    · rw [if_neg (fun q => q z1), if_pos z1]
    rw [if_pos z1, if_neg z1, e0, q_bd, q_lt, e1, q_bd, q_lt, q_lt]
    exact earn_C _ _ M
  · unfold sR_earned
    refine q_fx (fun r => r = some (if b0 = 0 then -4611686018427387904 else if b1 = 0 then -4611686018427387904 else if eov (M.2 7 0 * (nI n0).toInt64) (M.2 7 1 * (nI n1).toInt64) then -4611686018427387904 else M.2 7 0 * (nI n0).toInt64 + M.2 7 1 * (nI n1).toInt64, M)) (fun i (x : Int64) (g : Int64 → Int32 → pm_M → Option (Int64 × pm_M)) => g x (nI i) M) (fun i x => if i = 0 then x = 0 else if i = 1 then x = M.2 7 0 * (nI n0).toInt64 ∧ b0 ≠ 0 else x = M.2 7 0 * (nI n0).toInt64 + M.2 7 1 * (nI n1).toInt64 ∧ b0 ≠ 0 ∧ b1 ≠ 0 ∧ ¬ eov (M.2 7 0 * (nI n0).toInt64) (M.2 7 1 * (nI n1).toInt64)) 2 ?_ ?_ (n := 1000000) (a := 0) (by omega) (by rw [if_pos rfl])
    · intro i x hi hx g
      rcases (show i = 0 ∨ i = 1 by omega) with rfl | rfl
      · rw [if_pos rfl] at hx
        have e := s0 x g
        by_cases z0 : b0 = 0
        · left; rw [if_pos z0] at e ⊢; exact e
        · right
          refine ⟨M.2 7 0 * (nI n0).toInt64, ?_, ?_⟩
          · rw [if_neg (by omega), if_pos rfl]
            exact ⟨rfl, z0⟩
          · rw [if_neg z0, hx, if_neg (eov_0 _), Int64.zero_add] at e
            rw [hx]
            exact e
      · rw [if_neg (by omega), if_pos rfl] at hx
        obtain ⟨hx, z0⟩ := hx
        have e := s1 x g
        rw [if_neg z0]
        by_cases z1 : b1 = 0
        · left; rw [if_pos z1] at e ⊢; exact e
        rw [if_neg z1] at e ⊢
        by_cases ov : eov x (M.2 7 1 * (nI n1).toInt64)
        · left; rw [if_pos ov] at e; rw [hx] at ov; rw [if_pos ov]; exact e
        · right
          rw [if_neg ov] at e
          refine ⟨_, ?_, e⟩
          rw [if_neg (by omega), if_neg (by omega), hx]
          rw [hx] at ov
          exact ⟨rfl, z0, z1, ov⟩
    · intro x hx g
      rw [if_neg (by omega), if_neg (by omega)] at hx
      obtain ⟨hx, z0, z1, ov⟩ := hx
      rw [if_pos (by decide), hx, if_neg z0, if_neg z1, if_neg ov]
