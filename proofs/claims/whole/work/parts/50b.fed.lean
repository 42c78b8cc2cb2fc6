/-! THE TAPE, FED, both sides -/
theorem I_feed {t : Nat} {M : pm_M} (h : qInv t M) (a1 a2 a3 a4 a5 a6 : Int32) : qBo t (sC_feed a1 a2 a3 a4 a5 a6) (sR_feed a1 a2 a3 a4 a5 a6) M := by
  obtain ⟨d, h1, h2, h3, h4, h5, h6, h7⟩ := id h
  obtain ⟨hd, hC, hR, hT, hSt, hF⟩ := id h1
  obtain ⟨n, b, n60, nC, nR, nb⟩ := id h6
  have hr : ∀ M, sR_in a1.toInt64 1 5 M = some (b2i (¬ a1 < 1 ∧ a1 ≤ 5), M) := fun M => by
    rw [R_in]
    congr 2
    apply b2i_congr
    rw [Int32.not_lt, Int64.le_iff_toInt_le, Int64.le_iff_toInt_le, Int32.toInt_toInt64, Int32.le_iff_toInt_le, Int32.le_iff_toInt_le]
    exact Iff.rfl
  by_cases z : ¬ a1 < 1 ∧ a1 ≤ 5
  case neg =>
    refine ⟨-2, M, M, ?_, ?_, h⟩
    · unfold sC_feed
      by_cases z1 : a1 < 1
      · rw [if_pos z1]
      · rw [if_neg z1, if_neg (fun q => z ⟨z1, q⟩)]
    · unfold sR_feed
      rw [hr, q_bd, b2i_f z, if_pos rfl]
  by_cases i2 : pm_in a2 256
  case neg =>
    refine ⟨-2, M, M, ?_, ?_, h⟩
    · unfold sC_feed
      rw [if_neg z.1, if_pos z.2, C_isByte, q_bd, b2i_f i2, if_pos rfl]
    · unfold sR_feed
      rw [hr, q_bd, b2i_t z, if_neg (by decide), R_in0255, q_bd, b2i_f i2, if_pos rfl]
  by_cases i3 : pm_in a3 256
  case neg =>
    refine ⟨-2, M, M, ?_, ?_, h⟩
    · unfold sC_feed
      rw [if_neg z.1, if_pos z.2, C_isByte, q_bd, b2i_t i2, if_neg (by decide), C_isByte, q_bd, b2i_f i3, if_pos rfl]
    · unfold sR_feed
      rw [hr, q_bd, b2i_t z, if_neg (by decide), R_in0255, q_bd, b2i_t i2, if_neg (by decide), R_in0255, q_bd, b2i_f i3, if_pos rfl]
  by_cases i4 : pm_in a4 256
  case neg =>
    refine ⟨-2, M, M, ?_, ?_, h⟩
    · unfold sC_feed
      rw [if_neg z.1, if_pos z.2, C_isByte, q_bd, b2i_t i2, if_neg (by decide), C_isByte, q_bd, b2i_t i3, if_neg (by decide), C_isByte, q_bd, b2i_f i4, if_pos rfl]
    · unfold sR_feed
      rw [hr, q_bd, b2i_t z, if_neg (by decide), R_in0255, q_bd, b2i_t i2, if_neg (by decide), R_in0255, q_bd, b2i_t i3, if_neg (by decide), R_in0255, q_bd, b2i_f i4, if_pos rfl]
  by_cases i5 : pm_in a5 256
  case neg =>
    refine ⟨-2, M, M, ?_, ?_, h⟩
    · unfold sC_feed
      rw [if_neg z.1, if_pos z.2, C_isByte, q_bd, b2i_t i2, if_neg (by decide), C_isByte, q_bd, b2i_t i3, if_neg (by decide), C_isByte, q_bd, b2i_t i4, if_neg (by decide), C_isByte, q_bd, b2i_f i5, if_pos rfl]
    · unfold sR_feed
      rw [hr, q_bd, b2i_t z, if_neg (by decide), R_in0255, q_bd, b2i_t i2, if_neg (by decide), R_in0255, q_bd, b2i_t i3, if_neg (by decide), R_in0255, q_bd, b2i_t i4, if_neg (by decide), R_in0255, q_bd, b2i_f i5, if_pos rfl]
  by_cases i6 : pm_in a6 256
  case neg =>
    refine ⟨-2, M, M, ?_, ?_, h⟩
    · unfold sC_feed
      rw [if_neg z.1, if_pos z.2, C_isByte, q_bd, b2i_t i2, if_neg (by decide), C_isByte, q_bd, b2i_t i3, if_neg (by decide), C_isByte, q_bd, b2i_t i4, if_neg (by decide), C_isByte, q_bd, b2i_t i5, if_neg (by decide), C_isByte, q_bd, b2i_f i6, if_neg (fun q => q rfl)]
    · unfold sR_feed
      rw [hr, q_bd, b2i_t z, if_neg (by decide), R_in0255, q_bd, b2i_t i2, if_neg (by decide), R_in0255, q_bd, b2i_t i3, if_neg (by decide), R_in0255, q_bd, b2i_t i4, if_neg (by decide), R_in0255, q_bd, b2i_t i5, if_neg (by decide), R_in0255, q_bd, b2i_f i6, if_neg (fun q => q rfl)]
  have hn0 : ¬ a1 < 0 := by
    have z1 := z.1
    rw [Int32.lt_iff_toInt_lt] at z1 ⊢
    have : (1 : Int32).toInt = 1 := rfl
    have : (0 : Int32).toInt = 0 := rfl
    omega
  obtain ⟨m, hm, rfl⟩ := nI_ex hn0
  have m1 : 1 ≤ m := by
    have z1 := z.1
    rw [q1, nI_lt_iff hm (by omega)] at z1
    omega
  have m5 : m ≤ 5 := by
    have z2 := z.2
    rw [q5, nI_le_iff hm (by omega)] at z2
    exact z2
  by_cases hl : n + m ≤ 60
  case neg =>
    refine ⟨-4, M, M, ?_, ?_, h⟩
    · have hrm : sTape_hasRoom (nI m) M = some (0, M) := by
        unfold sTape_hasRoom
        rw [nC, qI_add, if_pos (by rw [show (60 : Int32) = nI 60 from rfl, nI_lt_iff (by omega) (by omega)]; omega)]
      unfold sC_feed
      rw [if_neg z.1, if_pos z.2, C_isByte, q_bd, b2i_t i2, if_neg (by decide), C_isByte, q_bd, b2i_t i3, if_neg (by decide), C_isByte, q_bd, b2i_t i4, if_neg (by decide), C_isByte, q_bd, b2i_t i5, if_neg (by decide), C_isByte, q_bd, b2i_t i6, if_pos (by decide), hrm, q_bd, if_neg (fun q => q rfl)]
    · unfold sR_feed
      rw [hr, q_bd, b2i_t z, if_neg (by decide), R_in0255, q_bd, b2i_t i2, if_neg (by decide), R_in0255, q_bd, b2i_t i3, if_neg (by decide), R_in0255, q_bd, b2i_t i4, if_neg (by decide), R_in0255, q_bd, b2i_t i5, if_neg (by decide), R_in0255, q_bd, b2i_t i6, if_pos (by decide), nR, qI_add, if_neg (by rw [show (60 : Int32) = nI 60 from rfl, nI_le_iff (by omega) (by omega)]; omega)]
  obtain ⟨M1, e1, c1, c2, c3, c4⟩ := C_feed_s nC m1 m5 hl i2 i3 i4 i5 i6
  obtain ⟨M2, e2, r1, r2, r3, r4, r5⟩ := R_feed_s (M := M1) (n := n) (by rw [c1 49 (by decide) (by decide)]; exact nR) m1 m5 hl i2 i3 i4 i5 i6 (by rw [hr, b2i_t z])
  have k1 : ∀ b, b ∉ [37, 38, 49, 56] → M2.1 b = M.1 b := fun b hb => by
    simp only [List.mem_cons, List.not_mem_nil, or_false, not_or] at hb
    rw [r1 b (by omega) (by omega), c1 b (by omega) (by omega)]
  have k49 : ∀ k, k ≠ 9 → M2.1 49 k = M.1 49 k := fun k hk => by rw [r3 k hk, c1 49 (by decide) (by decide)]
  have k2 : M2.2 = M.2 := by rw [r2, c2]
  have hB : ∀ i, ∃ v, v < 256 ∧ fdB a2 a3 a4 a5 a6 i = nI v := fun i => by
    obtain ⟨v2, w2, -, y2⟩ := pm_kx i2
    obtain ⟨v3, w3, -, y3⟩ := pm_kx i3
    obtain ⟨v4, w4, -, y4⟩ := pm_kx i4
    obtain ⟨v5, w5, -, y5⟩ := pm_kx i5
    obtain ⟨v6, w6, -, y6⟩ := pm_kx i6
    unfold fdB
    split
    · exact ⟨v2, w2, y2⟩
    · split
      · exact ⟨v3, w3, y3⟩
      · split
        · exact ⟨v4, w4, y4⟩
        · split
          · exact ⟨v5, w5, y5⟩
          · exact ⟨v6, w6, y6⟩
  refine ⟨nI (n + m), M1, M2, e1, e2, d, ?_, qLk_k h2 (by rw [k1 23 (by decide)]) (k1 29 (by decide)), qPy_k h3 (by rw [k2]) (by rw [k2]), qKp_k h4 (k49 32 (by decide)) (fun b hb => k1 b (by revert b; decide)) (by rw [k2]) (by rw [k2]), qTr_k h5 (fun k hk => k49 k (by revert k; decide)) (fun b hb => k1 b (by revert b; decide)), ⟨n + m, fun k => if n ≤ k ∧ k < n + m then (hB (k - n)).choose else b k, hl, ?_, ?_, fun k hk => ?_⟩, qSh_k h7 (fun b hb => k1 b (by revert b; decide)) (fun b _ => by rw [k2])⟩
  · exact ⟨hd, qC_of hC (fun b hb => k1 b (by simp only [List.mem_cons, List.not_mem_nil, or_false, not_or]; omega)), qR_of hR (k49 1 (by decide)) (fun b b1 b2 => k1 b (by simp only [List.mem_cons, List.not_mem_nil, or_false, not_or]; omega)), qTo_of hT (fun b b1 b2 => k1 b (by simp only [List.mem_cons, List.not_mem_nil, or_false, not_or]; omega)) (fun b b1 b2 => by rw [k2]), qSt_of hSt (fun k hk => by rw [k1 23 (by decide)]) (k1 24 (by decide)) (by rw [k2]), fun k hk => by rw [k2]; exact hF k hk⟩
  · rw [r1 37 (by decide) (by decide), c3]
  · exact r4
  · dsimp only
    rw [r1 38 (by decide) (by decide), c4, r5, c1 56 (by decide) (by decide)]
    by_cases q : n ≤ k ∧ k < n + m
    · rw [if_pos q, if_pos q, if_pos q]
      obtain ⟨w1, w2⟩ := (hB (k - n)).choose_spec
      exact ⟨w1, w2, w2⟩
    · rw [if_neg q, if_neg q, if_neg q]
      exact nb k (by omega)
