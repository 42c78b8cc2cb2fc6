/-! LAYING A SHEET ON THE NET -/
theorem qBo_tell2 {t : Nat} {f g : pm_M → Option (Int32 × pm_M)} {r : Int32 × Option qD} {M : pm_M} {d : qD} (hN : qNet M d) (hP : qPy M) (hK : qKp M) (hT : qTr t M d) (hTp : qTp M) (hSh : qSh M) (hL : qLk M d) (hf : qCe f r M) (hg : ∀ M1, qR M1 d → M1.1 78 = M.1 78 → M1.1 79 = M.1 79 → M1.2 80 = M.2 80 → qRe g r M1) : qBo t f g M := by
  obtain ⟨M1, e1, k1⟩ := hf
  obtain ⟨v, o⟩ := r
  cases o with
  | none =>
    have k1' : M1 = M := k1
    subst k1'
    obtain ⟨M2, e2, k2⟩ := hg M1 hN.2.2.1 rfl rfl rfl
    have k2' : M2 = M1 := k2
    subst k2'
    exact ⟨v, M2, M2, e1, e2, d, hN, hL, hP, hK, hT, hTp, hSh⟩
  | some d' =>
    obtain ⟨hd', c0, c1, c2, c3, c4, c5, c6, c7, c8, c9, c10, c11⟩ := k1
    have hR1 : qR M1 d := qR_of hN.2.2.1 (by rw [c1 49 (by decide)]) (fun b b1 b2 => c1 b (by simp only [List.mem_cons, List.not_mem_nil, or_false, not_or]; omega))
    obtain ⟨M2, e2, k2⟩ := hg M1 hR1 (c1 78 (by decide)) (c1 79 (by decide)) (c2 80 (by decide))
    have k2' : qRt d' M1 M2 := k2
    obtain ⟨r0, r1, r2, r3, r4, r5, r6, r7⟩ := k2'
    have i1 : ∀ b, b ∉ [1, 2, 3, 4, 5, 6, 16, 17, 18, 21, 23, 24, 30, 32, 35, 49, 50, 51, 52, 53, 54, 66, 69] → M2.1 b = M.1 b := fun b hb => by
      simp only [List.mem_cons, List.not_mem_nil, or_false, not_or] at hb
      rw [r1 b (by simp only [List.mem_cons, List.not_mem_nil, or_false, not_or]; omega), c1 b (by simp only [List.mem_cons, List.not_mem_nil, or_false, not_or]; omega)]
    have i2 : ∀ b, b ∉ [19, 20, 22, 25] → M2.2 b = M.2 b := fun b hb => by rw [r2, c2 b hb]
    have i3 : ∀ k, k ≠ 1 → k ≠ 22 → k ≠ 23 → M2.1 49 k = M.1 49 k := fun k a b c => by rw [r5 k a b c, c1 49 (by decide)]
    have s1 : ∀ b, b ∉ [49, 50, 51, 52, 53, 54, 66, 69] → M2.1 b = M1.1 b := r1
    refine ⟨v, M1, M2, e1, e2, d', ⟨hd', qC_of c0 (fun b hb => s1 b (by simp only [List.mem_cons, List.not_mem_nil, or_false, not_or]; omega)), r0, qTo_of c3 (fun b b1 b2 => s1 b (by simp only [List.mem_cons, List.not_mem_nil, or_false, not_or]; omega)) (fun b b1 b2 => by rw [r2]), qSt_of c4 (fun k _ => by rw [s1 23 (by decide)]) (s1 24 (by decide)) (by rw [r2]), fun k hk => by rw [i2 61 (by decide)]; exact hN.2.2.2.2.2 k hk⟩, Or.inl (by rw [s1 23 (by decide)]; exact c5), qPy_k hP (i2 7 (by decide)) (i2 55 (by decide)), qKp_k hK (i3 32 (by decide) (by decide) (by decide)) (fun b hb => i1 b (by revert b; decide)) (i2 14 (by decide)) (i2 77 (by decide)), ⟨?_, Or.inl ⟨by rw [s1 30 (by decide)]; exact c6, by rw [s1 30 (by decide)]; exact c7, by rw [s1 30 (by decide)]; exact c8, r3, r4, fun k hk => ⟨by rw [s1 32 (by decide)]; exact c10 k hk, r6 k hk⟩, fun k hk => ⟨by rw [s1 35 (by decide)]; exact c11 k hk, r7 k hk⟩⟩⟩, qTp_k hTp (i3 9 (by decide) (by decide) (by decide)) (i1 37 (by decide)) (i1 38 (by decide)) (i1 56 (by decide)), qSh_k hSh (fun b hb => i1 b (by revert b; decide)) (fun b hb => i2 b (by revert b; decide))⟩
    rw [s1 30 (by decide), c9 4 (by decide) (by decide) (by decide), i3 28 (by decide) (by decide) (by decide)]
    exact hT.1
def gC_lay (i l : Nat) (a2 a3 a4 a5 : Int32) (M : pm_M) : Option (Int32 × pm_M) := (pm_bd (some (b2i (M.1 i 0 = -1), M)) fun v10 M9 => pm_jn (fun (M12 : pm_M) => pm_bd (some (b2i (M12.1 i 0 = -1), M12)) fun v14 M13 => if v14 = 0 then (pm_bd (some (b2i (¬ a5 < 0 ∧ ¬ M13.1 1 0 < 0 ∧ ¬ M13.1 i 1 - M13.1 1 0 < a5), M13)) fun v16 M15 => if ¬ v16 = 0 then (pm_loop (fun _ _ => none) (fun (g17 : Int32 → pm_M → Option (Int32 × pm_M)) x19 M18 => if (M18.1 1 0) ≤ x19 then (pm_bv (sC_netTold M18) fun M20 => some ((M20.1 1 0), M20)) else (if pm_in (a5 + x19) 40 then (pm_bv (sNet_setWeight_1 a2 a3 x19 (if 0 < ((M18.2 l (a5 + x19).toNatClampNeg) - (M18.2 l (a5 + x19).toNatClampNeg) / (10 : Int64) * (10 : Int64)) then ((M18.2 l (a5 + x19).toNatClampNeg) - (M18.2 l (a5 + x19).toNatClampNeg) / (10 : Int64) * (10 : Int64)) else -((M18.2 l (a5 + x19).toNatClampNeg) - (M18.2 l (a5 + x19).toNatClampNeg) / (10 : Int64) * (10 : Int64))).toInt32 M18) fun M21 => pm_lt ((x19 + (1 : Int32))) fun x22 => g17 x22 M21) else none)) 1000000 (0 : Int32) M15) else (some ((-12 : Int32), M15))) else (some ((-11 : Int32), M13))) fun (j11 : pm_M → Option (Int32 × pm_M)) => if ¬ v10 = 0 then (j11 M9) else (if (M9.1 i 0) = a4 then (j11 M9) else (some ((-13 : Int32), M9))))
theorem C_lay_g {j : Nat} (hj : j < 4) (a2 a3 a4 a5 : Int32) (M : pm_M) : (if nI j = 0 then (pm_bd (sSheet_isMissing_40 M) fun v10 M9 => pm_jn (fun (M12 : pm_M) => pm_bd (sSheet_isMissing_40 M12) fun v14 M13 => if v14 = 0 then (pm_bd (sSheet_hasRun_40 a5 (M13.1 1 0) M13) fun v16 M15 => if ¬ v16 = 0 then (pm_loop (fun _ _ => none) (fun (g17 : Int32 → pm_M → Option (Int32 × pm_M)) x19 M18 => if (M18.1 1 0) ≤ x19 then (pm_bv (sC_netTold M18) fun M20 => some ((M20.1 1 0), M20)) else (if pm_in (a5 + x19) 40 then (pm_bv (sNet_setWeight_1 a2 a3 x19 (if 0 < ((M18.2 41 (a5 + x19).toNatClampNeg) - (M18.2 41 (a5 + x19).toNatClampNeg) / (10 : Int64) * (10 : Int64)) then ((M18.2 41 (a5 + x19).toNatClampNeg) - (M18.2 41 (a5 + x19).toNatClampNeg) / (10 : Int64) * (10 : Int64)) else -((M18.2 41 (a5 + x19).toNatClampNeg) - (M18.2 41 (a5 + x19).toNatClampNeg) / (10 : Int64) * (10 : Int64))).toInt32 M18) fun M21 => pm_lt ((x19 + (1 : Int32))) fun x22 => g17 x22 M21) else none)) 1000000 (0 : Int32) M15) else (some ((-12 : Int32), M15))) else (some ((-11 : Int32), M13))) fun (j11 : pm_M → Option (Int32 × pm_M)) => if ¬ v10 = 0 then (j11 M9) else (if (M9.1 40 0) = a4 then (j11 M9) else (some ((-13 : Int32), M9)))) else if nI j = 1 then (pm_bd (sSheet_isMissing_42 M) fun v24 M23 => pm_jn (fun (M26 : pm_M) => pm_bd (sSheet_isMissing_42 M26) fun v28 M27 => if v28 = 0 then (pm_bd (sSheet_hasRun_42 a5 (M27.1 1 0) M27) fun v30 M29 => if ¬ v30 = 0 then (pm_loop (fun _ _ => none) (fun (g31 : Int32 → pm_M → Option (Int32 × pm_M)) x33 M32 => if (M32.1 1 0) ≤ x33 then (pm_bv (sC_netTold M32) fun M34 => some ((M34.1 1 0), M34)) else (if pm_in (a5 + x33) 40 then (pm_bv (sNet_setWeight_1 a2 a3 x33 (if 0 < ((M32.2 43 (a5 + x33).toNatClampNeg) - (M32.2 43 (a5 + x33).toNatClampNeg) / (10 : Int64) * (10 : Int64)) then ((M32.2 43 (a5 + x33).toNatClampNeg) - (M32.2 43 (a5 + x33).toNatClampNeg) / (10 : Int64) * (10 : Int64)) else -((M32.2 43 (a5 + x33).toNatClampNeg) - (M32.2 43 (a5 + x33).toNatClampNeg) / (10 : Int64) * (10 : Int64))).toInt32 M32) fun M35 => pm_lt ((x33 + (1 : Int32))) fun x36 => g31 x36 M35) else none)) 1000000 (0 : Int32) M29) else (some ((-12 : Int32), M29))) else (some ((-11 : Int32), M27))) fun (j25 : pm_M → Option (Int32 × pm_M)) => if ¬ v24 = 0 then (j25 M23) else (if (M23.1 42 0) = a4 then (j25 M23) else (some ((-13 : Int32), M23)))) else if nI j = 2 then (pm_bd (sSheet_isMissing_44 M) fun v38 M37 => pm_jn (fun (M40 : pm_M) => pm_bd (sSheet_isMissing_44 M40) fun v42 M41 => if v42 = 0 then (pm_bd (sSheet_hasRun_44 a5 (M41.1 1 0) M41) fun v44 M43 => if ¬ v44 = 0 then (pm_loop (fun _ _ => none) (fun (g45 : Int32 → pm_M → Option (Int32 × pm_M)) x47 M46 => if (M46.1 1 0) ≤ x47 then (pm_bv (sC_netTold M46) fun M48 => some ((M48.1 1 0), M48)) else (if pm_in (a5 + x47) 40 then (pm_bv (sNet_setWeight_1 a2 a3 x47 (if 0 < ((M46.2 45 (a5 + x47).toNatClampNeg) - (M46.2 45 (a5 + x47).toNatClampNeg) / (10 : Int64) * (10 : Int64)) then ((M46.2 45 (a5 + x47).toNatClampNeg) - (M46.2 45 (a5 + x47).toNatClampNeg) / (10 : Int64) * (10 : Int64)) else -((M46.2 45 (a5 + x47).toNatClampNeg) - (M46.2 45 (a5 + x47).toNatClampNeg) / (10 : Int64) * (10 : Int64))).toInt32 M46) fun M49 => pm_lt ((x47 + (1 : Int32))) fun x50 => g45 x50 M49) else none)) 1000000 (0 : Int32) M43) else (some ((-12 : Int32), M43))) else (some ((-11 : Int32), M41))) fun (j39 : pm_M → Option (Int32 × pm_M)) => if ¬ v38 = 0 then (j39 M37) else (if (M37.1 44 0) = a4 then (j39 M37) else (some ((-13 : Int32), M37)))) else if nI j = 3 then (pm_bd (sSheet_isMissing_46 M) fun v52 M51 => pm_jn (fun (M54 : pm_M) => pm_bd (sSheet_isMissing_46 M54) fun v56 M55 => if v56 = 0 then (pm_bd (sSheet_hasRun_46 a5 (M55.1 1 0) M55) fun v58 M57 => if ¬ v58 = 0 then (pm_loop (fun _ _ => none) (fun (g59 : Int32 → pm_M → Option (Int32 × pm_M)) x61 M60 => if (M60.1 1 0) ≤ x61 then (pm_bv (sC_netTold M60) fun M62 => some ((M62.1 1 0), M62)) else (if pm_in (a5 + x61) 40 then (pm_bv (sNet_setWeight_1 a2 a3 x61 (if 0 < ((M60.2 47 (a5 + x61).toNatClampNeg) - (M60.2 47 (a5 + x61).toNatClampNeg) / (10 : Int64) * (10 : Int64)) then ((M60.2 47 (a5 + x61).toNatClampNeg) - (M60.2 47 (a5 + x61).toNatClampNeg) / (10 : Int64) * (10 : Int64)) else -((M60.2 47 (a5 + x61).toNatClampNeg) - (M60.2 47 (a5 + x61).toNatClampNeg) / (10 : Int64) * (10 : Int64))).toInt32 M60) fun M63 => pm_lt ((x61 + (1 : Int32))) fun x64 => g59 x64 M63) else none)) 1000000 (0 : Int32) M57) else (some ((-12 : Int32), M57))) else (some ((-11 : Int32), M55))) fun (j53 : pm_M → Option (Int32 × pm_M)) => if ¬ v52 = 0 then (j53 M51) else (if (M51.1 46 0) = a4 then (j53 M51) else (some ((-13 : Int32), M51)))) else none) = gC_lay (40 + 2 * j) (41 + 2 * j) a2 a3 a4 a5 M := by
  unfold gC_lay
  rcases (show j = 0 ∨ j = 1 ∨ j = 2 ∨ j = 3 by omega) with rfl | rfl | rfl | rfl
  · simp only [show nI 0 = (0 : Int32) from rfl, show 40 + 2 * 0 = 40 from rfl, show 41 + 2 * 0 = 41 from rfl, sf01, sf02, sf03, sf10, sf12, sf13, sf20, sf21, sf23, sf30, sf31, sf32, eq_self, if_true, if_false, not_true_eq_false, not_false_eq_true, miss_40, hasR_40]
  · simp only [show nI 1 = (1 : Int32) from rfl, show 40 + 2 * 1 = 42 from rfl, show 41 + 2 * 1 = 43 from rfl, sf01, sf02, sf03, sf10, sf12, sf13, sf20, sf21, sf23, sf30, sf31, sf32, eq_self, if_true, if_false, not_true_eq_false, not_false_eq_true, miss_42, hasR_42]
  · simp only [show nI 2 = (2 : Int32) from rfl, show 40 + 2 * 2 = 44 from rfl, show 41 + 2 * 2 = 45 from rfl, sf01, sf02, sf03, sf10, sf12, sf13, sf20, sf21, sf23, sf30, sf31, sf32, eq_self, if_true, if_false, not_true_eq_false, not_false_eq_true, miss_44, hasR_44]
  · simp only [show nI 3 = (3 : Int32) from rfl, show 40 + 2 * 3 = 46 from rfl, show 41 + 2 * 3 = 47 from rfl, sf01, sf02, sf03, sf10, sf12, sf13, sf20, sf21, sf23, sf30, sf31, sf32, eq_self, if_true, if_false, not_true_eq_false, not_false_eq_true, miss_46, hasR_46]
theorem lw_ex (v : Int64) : ∃ w : Nat, w ≤ 9 ∧ (if 0 < v - v / (10 : Int64) * (10 : Int64) then v - v / (10 : Int64) * (10 : Int64) else -(v - v / (10 : Int64) * (10 : Int64))).toInt32 = nI w ∧ (0 ≤ (v - v / (10 : Int64) * (10 : Int64)).toInt32 → (v - v / (10 : Int64) * (10 : Int64)).toInt32 = nI w) ∧ (¬ 0 ≤ (v - v / (10 : Int64) * (10 : Int64)).toInt32 → -(v - v / (10 : Int64) * (10 : Int64)).toInt32 = nI w) := by
  have b1 := Int64.le_toInt v
  have b2 := Int64.toInt_lt v
  have hr : ∃ z : Int, (v - v / (10 : Int64) * (10 : Int64)).toInt = z ∧ -9 ≤ z ∧ z ≤ 9 := by
    refine ⟨_, rfl, ?_⟩
    rw [Int64.toInt_sub, Int64.toInt_mul, Int64.toInt_div_of_ne_right _ _ (by decide), show (10 : Int64).toInt = 10 from rfl]
    have hq : ∃ q : Int, v.toInt.tdiv 10 = q ∧ ((0 ≤ v.toInt → q = v.toInt / 10) ∧ (v.toInt < 0 → q = -((-v.toInt) / 10))) := by
      refine ⟨_, rfl, fun h => Int.tdiv_eq_ediv_of_nonneg h, fun h => ?_⟩
      have e : v.toInt = -(-v.toInt) := by omega
      rw [← Int.tdiv_eq_ediv_of_nonneg (show 0 ≤ -v.toInt by omega), Int.neg_tdiv, Int.neg_neg]
    obtain ⟨q, e, h1, h2⟩ := hq
    rw [e]
    generalize v.toInt = a at *
    have hq10 : (q * 10).bmod (2 ^ 64) = q * 10 := by
      rw [Int.bmod_def]
      split <;> omega
    rw [hq10, Int.bmod_def]
    split <;> omega
  obtain ⟨z, e, z1, z2⟩ := hr
  generalize v - v / (10 : Int64) * (10 : Int64) = r at e
  have e32 : r.toInt32.toInt = z := by
    rw [Int64.toInt_toInt32, e, Int.bmod_def]
    split <;> omega
  have n32 : (-r.toInt32).toInt = -z := by
    rw [Int32.toInt_neg, e32, Int.bmod_def]
    split <;> omega
  have n64 : (-r).toInt32.toInt = -z := by
    rw [Int64.toInt_toInt32, Int64.toInt_neg, e, Int.bmod_def, Int.bmod_def]
    split <;> split <;> omega
  refine ⟨z.natAbs, by omega, ?_, fun h => ?_, fun h => ?_⟩
  · by_cases p : 0 < r
    · rw [if_pos p, ← Int32.toInt_inj, e32, nI_toInt (by omega)]
      rw [Int64.lt_iff_toInt_lt, e, Int64.toInt_zero] at p
      omega
    · rw [if_neg p, ← Int32.toInt_inj, n64, nI_toInt (by omega)]
      rw [Int64.lt_iff_toInt_lt, e, Int64.toInt_zero] at p
      omega
  · rw [← Int32.toInt_inj, e32, nI_toInt (by omega)]
    rw [Int32.le_iff_toInt_le, e32, Int32.toInt_zero] at h
    omega
  · rw [← Int32.toInt_inj, n32, nI_toInt (by omega)]
    rw [Int32.le_iff_toInt_le, e32, Int32.toInt_zero] at h
    omega
noncomputable def lw (v : Int64) : Nat := (lw_ex v).choose
theorem lw_9 (v : Int64) : lw v ≤ 9 := (lw_ex v).choose_spec.1
theorem lw_C (v : Int64) : (if 0 < v - v / (10 : Int64) * (10 : Int64) then v - v / (10 : Int64) * (10 : Int64) else -(v - v / (10 : Int64) * (10 : Int64))).toInt32 = nI (lw v) := (lw_ex v).choose_spec.2.1
theorem lw_p {v : Int64} (h : 0 ≤ (v - v / (10 : Int64) * (10 : Int64)).toInt32) : (v - v / (10 : Int64) * (10 : Int64)).toInt32 = nI (lw v) := (lw_ex v).choose_spec.2.2.1 h
theorem lw_n {v : Int64} (h : ¬ 0 ≤ (v - v / (10 : Int64) * (10 : Int64)).toInt32) : -(v - v / (10 : Int64) * (10 : Int64)).toInt32 = nI (lw v) := (lw_ex v).choose_spec.2.2.2 h
