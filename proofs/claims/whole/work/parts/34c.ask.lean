/-! ASKING what stands in truth -/
theorem tr_pas {t : Nat} {M : pm_M} {d : qD} (h : qTr t M d) {k : Nat} (hk : k < 10) : M.1 35 k = M.1 69 k ∧ ∃ n, n ≤ 480 * t ∧ M.1 35 k = nI n := by
  rcases h.2 with ⟨-, -, -, -, -, -, q⟩ | ⟨-, -, -, -, -, X, q1, q2, -, -, q3⟩
  · obtain ⟨a, b⟩ := q k hk
    exact ⟨by rw [a, b], 0, Nat.zero_le _, a⟩
  · obtain ⟨n, n1, n2⟩ := q3 k hk
    exact ⟨by rw [q1.2.2.2.1 k hk, q2.2.2.2 k hk], n, n1, by rw [q1.2.2.2.1 k hk, n2]⟩
theorem tr_std {t : Nat} {M : pm_M} {d : qD} (hd : qOK d) (h : qTr t M d) {s : Nat} (hs : s < 5) : ∃ n, n ≤ 8 ∧ M.1 32 s = nI n ∧ M.1 66 s = nI n ∧ ∀ i, i < n → M.1 31 (8 * s + i) = M.1 67 (8 * s + i) := by
  rcases h.2 with ⟨-, -, -, -, -, q, -⟩ | ⟨-, -, -, -, -, X, q1, q2, q4, -, q3⟩
  · obtain ⟨a, b⟩ := q s hs
    exact ⟨0, by omega, a, b, fun i hi => absurd hi (Nat.not_lt_zero i)⟩
  · have := xlen hd q4 hs
    exact ⟨(xQ X s).length, by omega, q1.1 s hs, q2.1 s hs, fun i hi => by rw [q1.2.1 s i hs hi, q2.2.1 s i hs hi]⟩
theorem R_inm {n : Nat} (hn : n < 1000) (x : Int32) (M : pm_M) : sR_in x.toInt64 0 (nI n - (1 : Int32)).toInt64 M = some (b2i (pm_in x n), M) := by
  rw [R_in]
  congr 2
  apply b2i_congr
  rw [pm_in_toInt, Int64.le_iff_toInt_le, Int64.le_iff_toInt_le, Int32.toInt_toInt64, Int32.toInt_toInt64, Int64.toInt_zero]
  have : (nI n - (1 : Int32)).toInt = (n : Int) - 1 := by
    cases n with
    | zero => rfl
    | succ m =>
      rw [q1, nI_sub (by omega), nI_toInt (by omega)]
      omega
  rw [this]
  omega
theorem I_passed {t : Nat} {M : pm_M} (h : qInv t M) (a b : Int32) : qBo t (sC_passed a b) (sR_passed a b) M := by
  obtain ⟨d, h1, h2, h3, h4, h5, h6, h7⟩ := id h
  obtain ⟨hd, hC, hR, hT, hSt, hF⟩ := id h1
  have hS := hd.1
  refine qBo_pur h ?_
  by_cases i1 : pm_in a 2
  case neg =>
    refine ⟨-2, M, M, ?_, ?_, qScr_rf⟩
    · unfold sC_passed
      rw [C_isClass, q_bd, b2i_f i1, if_pos rfl]
    · unfold sR_passed
      rw [R_isPart, q_bd, b2i_f i1, if_pos rfl]
  by_cases i2 : pm_in b (qS d)
  case neg =>
    refine ⟨-2, M, M, ?_, ?_, qScr_rf⟩
    · unfold sC_passed
      rw [C_isClass, q_bd, b2i_t i1, if_neg (by decide), Net_hasStation hd hC, q_bd, b2i_f i2, if_neg (fun q => q rfl)]
    · unfold sR_passed
      rw [R_isPart, q_bd, b2i_t i1, if_neg (by decide), R_isStation hd hR, q_bd, b2i_f i2, if_pos rfl]
  obtain ⟨c, hc, -, rfl⟩ := pm_kx i1
  obtain ⟨s, hs, -, rfl⟩ := pm_kx i2
  refine ⟨M.1 35 (5 * c + s), M, M, ?_, ?_, qScr_rf⟩
  · unfold sC_passed
    rw [C_isClass, q_bd, b2i_t i1, if_neg (by decide), Net_hasStation hd hC, q_bd, b2i_t i2, if_pos (by decide), qcs', if_pos (by rw [nI_in_iff (by omega)]; omega), nI_cl _ (by omega)]
  · unfold sR_passed
    rw [R_isPart, q_bd, b2i_t i1, if_neg (by decide), R_isStation hd hR, q_bd, b2i_t i2, if_neg (by decide), qcs, if_pos (by rw [nI_in_iff (by omega)]; omega), nI_cl _ (by omega), (tr_pas h5 (show 5 * c + s < 10 by omega)).1]
theorem I_stands {t : Nat} {M : pm_M} (h : qInv t M) (a b : Int32) : qBo t (sC_stands a b) (sR_stands a b) M := by
  obtain ⟨d, h1, h2, h3, h4, h5, h6, h7⟩ := id h
  obtain ⟨hd, hC, hR, hT, hSt, hF⟩ := id h1
  have hS := hd.1
  refine qBo_pur h ?_
  by_cases i1 : pm_in a (qS d)
  case neg =>
    refine ⟨-2, M, M, ?_, ?_, qScr_rf⟩
    · unfold sC_stands
      rw [Net_hasStation hd hC, q_bd, b2i_f i1, if_neg (fun q => q rfl)]
    · unfold sR_stands
      rw [R_isStation hd hR, q_bd, b2i_f i1, if_neg (fun q => q rfl)]
  obtain ⟨s, hs, -, rfl⟩ := pm_kx i1
  have hin5 : pm_in (nI s) 5 := by rw [nI_in_iff (by omega)]; omega
  obtain ⟨n, n1, n2, n3, n4⟩ := tr_std hd h5 (show s < 5 by omega)
  by_cases i2 : pm_in b n
  case neg =>
    refine ⟨-1, M, M, ?_, ?_, qScr_rf⟩
    · unfold sC_stands
      rw [Net_hasStation hd hC, q_bd, b2i_t i1, if_pos (by decide)]
      by_cases z : b < 0
      · rw [if_pos z]
      · rw [if_neg z, if_pos hin5, nI_cl s (by omega), n2, if_neg]
        intro q
        obtain ⟨k, hk, rfl⟩ := nI_ex z
        rw [nI_lt_iff hk (by omega)] at q
        exact i2 ((nI_in_iff hk).mpr q)
    · unfold sR_stands
      rw [R_isStation hd hR, q_bd, b2i_t i1, if_pos (by decide), if_pos hin5, nI_cl s (by omega), n3, R_inm (by omega), q_bd, b2i_f i2, if_pos rfl]
  obtain ⟨i, hi, -, rfl⟩ := pm_kx i2
  refine ⟨M.1 31 (8 * s + i), M, M, ?_, ?_, qScr_rf⟩
  · unfold sC_stands
    rw [Net_hasStation hd hC, q_bd, b2i_t i1, if_pos (by decide), if_neg (nI_nneg (by omega)), if_pos hin5, nI_cl s (by omega), n2, if_pos (by rw [nI_lt_iff (by omega) (by omega)]; exact hi), q8s, if_pos (by rw [nI_in_iff (by omega)]; omega), nI_cl _ (by omega)]
  · unfold sR_stands
    rw [R_isStation hd hR, q_bd, b2i_t i1, if_pos (by decide), if_pos hin5, nI_cl s (by omega), n3, R_inm (by omega), q_bd, b2i_t i2, if_neg (by decide), q8s', if_pos (by rw [nI_in_iff (by omega)]; omega), nI_cl _ (by omega), n4 i hi]
def qgr (k : Nat) : Nat := if k = 2 then 1 else if k = 3 then 2 else 0
theorem qgr_C {k : Nat} {M : pm_M} (hk : k < 4) : sC_groupOf (nI k) M = some (nI (qgr k), M) := by
  rcases (show k = 0 ∨ k = 1 ∨ k = 2 ∨ k = 3 by omega) with rfl | rfl | rfl | rfl <;> rfl
theorem I_taken {t : Nat} {M : pm_M} (h : qInv t M) (a b : Int32) : qBo t (sC_taken a b) (sR_taken a b) M := by
  obtain ⟨d, h1, h2, h3, h4, h5, h6, h7⟩ := id h
  obtain ⟨hd, hC, hR, hT, hSt, hF⟩ := id h1
  have hS := hd.1
  refine qBo_pur h ?_
  by_cases i1 : pm_in a (qS d)
  case neg =>
    refine ⟨-2, M, M, ?_, ?_, qScr_rf⟩
    · unfold sC_taken
      rw [Net_hasStation hd hC, q_bd, b2i_f i1, if_pos rfl]
    · unfold sR_taken
      rw [R_isStation hd hR, q_bd, b2i_f i1, if_pos rfl]
  by_cases i2 : pm_in b 3
  case neg =>
    refine ⟨-2, M, M, ?_, ?_, qScr_rf⟩
    · unfold sC_taken
      rw [Net_hasStation hd hC, q_bd, b2i_t i1, if_neg (by decide)]
      by_cases z : b < 0
      · rw [if_pos z]
      · rw [if_neg z, if_neg (Int32.not_le.mpr (show (2 : Int32) < b from pm_hi (n := 2) (by omega) i2 z))]
    · unfold sR_taken
      rw [R_isStation hd hR, q_bd, b2i_t i1, if_neg (by decide), R_in02, q_bd, b2i_f i2, if_neg (fun q => q rfl)]
  obtain ⟨s, hs, -, rfl⟩ := pm_kx i1
  obtain ⟨g, hg, -, rfl⟩ := pm_kx i2
  have hin5 : pm_in (nI s) 5 := by rw [nI_in_iff (by omega)]; omega
  obtain ⟨n, n1, n2, n3, n4⟩ := tr_std hd h5 (show s < 5 by omega)
  have hK := hd.2.1 s
  generalize hk : qK d s = k at hK
  have eg := qgr_C (M := M) (show k < 4 by omega)
  have hgr : qgr k < 3 := by unfold qgr; split; omega; split <;> omega
  generalize hgk : qgr k = gr at hgr eg
  have hck : (nI s).toNatClampNeg = s := nI_cl s (by omega)
  refine ⟨if gr = g then nI n else -13, M, M, ?_, ?_, qScr_rf⟩
  · unfold sC_taken
    rw [Net_hasStation hd hC, q_bd, b2i_t i1, if_neg (by decide), if_neg (nI_nneg (by omega)), if_pos (by rw [q2, nI_le_iff (by omega) (by omega)]; omega), if_pos hin5]
    simp only [hck]
    rw [hC.2.1, hk, eg, q_bd]
    by_cases z : gr = g
    · rw [if_pos z, if_pos ((nI_inj (by omega) (by omega)).mpr z), if_pos hin5, n2]
    · rw [if_neg z, if_neg (fun q => z ((nI_inj (by omega) (by omega)).mp q))]
  · have main : (if ¬ nI gr = nI g then (some ((-13 : Int32), M)) else (if pm_in (nI s) 5 then (some ((M.1 66 s), M)) else none)) = some (if gr = g then nI n else -13, M) := by
      by_cases z : gr = g
      · rw [if_pos z, if_neg (fun q => q ((nI_inj (by omega) (by omega)).mpr z)), if_pos hin5, n3]
      · rw [if_neg z, if_pos (fun q => z ((nI_inj (by omega) (by omega)).mp q))]
    unfold sR_taken
    rw [R_isStation hd hR, q_bd, b2i_t i1, if_neg (by decide), R_in02, q_bd, b2i_t i2, if_pos (by decide), if_pos hin5]
    simp only [hck]
    rw [q_jn, hR.2.1, hk]
    rw [← main]
    rw [← hgk]
    rcases (show k = 0 ∨ k = 1 ∨ k = 2 ∨ k = 3 by omega) with rfl | rfl | rfl | rfl
    · rw [if_pos (by decide), if_pos hin5, if_pos (by decide)]; rfl
    · rw [if_pos (by decide), if_pos hin5, if_pos (by decide)]; rfl
    · rw [if_neg (by decide)]; rfl
    · rw [if_pos (by decide), if_pos hin5, if_neg (by decide)]; rfl
theorem I_count {t : Nat} {M : pm_M} (h : qInv t M) (w : Int32) : qBo t (sC_count w) (sR_count w) M := by
  obtain ⟨d, h1, h2, h3, h4, h5, h6, h7⟩ := id h
  obtain ⟨hd, hC, hR, hT, hSt, hF⟩ := id h1
  refine qBo_pur h ?_
  let cr : Nat → Nat := qsm (fun k => if qW d k = 0 then 0 else 1)
  have crs : ∀ k, cr (k + 1) = cr k + if qW d k = 0 then 0 else 1 := fun _ => rfl
  have q50 : (50 : Int32) = nI 50 := rfl
  have eC : sNet_countRoutes_1 M = some (nI (cr 50), M) := by
    unfold sNet_countRoutes_1
    refine q_for (fun i (g : Int32 → Int32 → pm_M → Option (Int32 × pm_M)) => g (nI (cr i)) (nI i) M) (N := 50) ?_ ?_ (by omega)
    · intro i hi g
      have hw := hd.2.2.2.2.2.2.2.1 i
      rw [if_neg (by rw [q50, nI_le_iff (by omega) (by omega)]; omega), if_pos (by rw [nI_in_iff (by omega)]; exact hi), nI_cl i (by omega), hC.2.2.2.2.2, crs]
      by_cases z : qW d i = 0
      · rw [if_pos z, z, if_pos (by decide), q_lt, ← nI_succ]; rfl
      · rw [if_neg z, if_neg (by rw [q0, nI_le_iff (by omega) (by omega)]; omega), q_lt, q_lt, ← nI_succ, ← nI_succ]
    · intro g
      rw [if_pos (by decide)]
  have eR : (pm_loop (fun _ _ _ => none) (fun (g1 : Int32 → Int32 → pm_M → Option (Int32 × pm_M)) x3 x4 M2 => if (50 : Int32) ≤ x4 then (some (x3, M2)) else (if pm_in x4 50 then (if (M2.1 54 x4.toNatClampNeg) ≤ 0 then (pm_lt ((x4 + (1 : Int32))) fun x5 => g1 x3 x5 M2) else (pm_lt ((x3 + (1 : Int32))) fun x6 => pm_lt ((x4 + (1 : Int32))) fun x7 => g1 x6 x7 M2)) else none)) 1000000 (0 : Int32) (0 : Int32) M) = some (nI (cr 50), M) := by
    refine q_for (fun i (g : Int32 → Int32 → pm_M → Option (Int32 × pm_M)) => g (nI (cr i)) (nI i) M) (N := 50) ?_ ?_ (by omega)
    · intro i hi g
      have hw := hd.2.2.2.2.2.2.2.1 i
      rw [if_neg (by rw [q50, nI_le_iff (by omega) (by omega)]; omega), if_pos (by rw [nI_in_iff (by omega)]; exact hi), nI_cl i (by omega), hR.2.2.2.2.2, crs]
      by_cases z : qW d i = 0
      · rw [if_pos z, z, if_pos (by decide), q_lt, ← nI_succ]; rfl
      · rw [if_neg z, if_neg (by rw [q0, nI_le_iff (by omega) (by omega)]; omega), q_lt, q_lt, ← nI_succ, ← nI_succ]
    · intro g
      rw [if_pos (by decide)]
  have eT : sR_inTruth M = some (M.1 30 1, M) := by
    unfold sR_inTruth
    rcases h5.2 with ⟨-, a, -, b, -⟩ | ⟨-, b, -, a, -⟩
    · rw [b, if_pos rfl, a]
    · rw [b, if_neg (by decide), a, hR.2.2.2.2.1, hR.2.2.2.2.1, qI_add]
  have e23 : M.1 30 3 = M.1 49 23 := by
    rcases h5.2 with ⟨-, -, a, -, b, -⟩ | ⟨-, -, -, -, a, -⟩
    · rw [a, b]
    · exact a
  have e9 : M.1 37 0 = M.1 49 9 := by
    obtain ⟨n, b, -, a1, a2, -⟩ := h6
    rw [a1, a2]
  refine ⟨if w = Int32.ofNat 0 then nI (qS d) else if w = Int32.ofNat 1 then nI (qP d 0) + nI (qP d 1) else if w = Int32.ofNat 2 then nI (cr 50) else if w = Int32.ofNat 3 then M.1 30 1 else if w = Int32.ofNat 4 then M.1 49 23 else if w = Int32.ofNat 5 then M.1 49 9 else -2, M, M, ?_, ?_, qScr_rf⟩
  · unfold sC_count
    rw [hC.1, hC.2.2.2.2.1, hC.2.2.2.2.1, eC]
    by_cases w0 : w = Int32.ofNat 0
    · rw [if_pos w0, if_pos w0]
    rw [if_neg w0, if_neg w0]
    by_cases w1 : w = Int32.ofNat 1
    · rw [if_pos w1, if_pos w1]
    rw [if_neg w1, if_neg w1]
    by_cases w2 : w = Int32.ofNat 2
    · rw [if_pos w2, if_pos w2, q_bd]
    rw [if_neg w2, if_neg w2]
    by_cases w3 : w = Int32.ofNat 3
    · rw [if_pos w3, if_pos w3]
    rw [if_neg w3, if_neg w3]
    by_cases w4 : w = Int32.ofNat 4
    · rw [if_pos w4, if_pos w4, e23]
    rw [if_neg w4, if_neg w4]
    by_cases w5 : w = Int32.ofNat 5
    · rw [if_pos w5, if_pos w5, e9]
    rw [if_neg w5, if_neg w5]
  · unfold sR_count
    rw [hR.1, hR.2.2.2.2.1, hR.2.2.2.2.1, eR, eT]
    by_cases w0 : w = Int32.ofNat 0
    · rw [if_pos w0, if_pos w0]
    rw [if_neg w0, if_neg w0]
    by_cases w1 : w = Int32.ofNat 1
    · rw [if_pos w1, if_pos w1]
    rw [if_neg w1, if_neg w1]
    by_cases w2 : w = Int32.ofNat 2
    · rw [if_pos w2, if_pos w2]
    rw [if_neg w2, if_neg w2]
    by_cases w3 : w = Int32.ofNat 3
    · rw [if_pos w3, if_pos w3, q_bd]
    rw [if_neg w3, if_neg w3]
    by_cases w4 : w = Int32.ofNat 4
    · rw [if_pos w4, if_pos w4]
    rw [if_neg w4, if_neg w4]
    by_cases w5 : w = Int32.ofNat 5
    · rw [if_pos w5, if_pos w5]
    rw [if_neg w5, if_neg w5]
