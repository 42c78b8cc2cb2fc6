/-! SHEETS: both sides -/
theorem qInv_sh {t : Nat} {M M' : pm_M} (h : qInv t M) (e1 : ∀ b, b ∉ [40, 42, 44, 46, 78, 79] → M'.1 b = M.1 b) (e2 : ∀ b, b ∉ [41, 43, 45, 47, 80] → M'.2 b = M.2 b) (hs : qSh M') : qInv t M' := by
  obtain ⟨d, ⟨n1, n2, n3, n4, n5, n6⟩, h2, h3, h4, h5, h6, h7⟩ := h
  refine ⟨d, ⟨n1, qC_of n2 (fun b hb => e1 b (by simp only [List.mem_cons, List.not_mem_nil, or_false, not_or]; omega)), qR_of n3 (by rw [e1 49 (by decide)]) (fun b b1 b2 => e1 b (by simp only [List.mem_cons, List.not_mem_nil, or_false, not_or]; omega)), qTo_of n4 (fun b b1 b2 => e1 b (by simp only [List.mem_cons, List.not_mem_nil, or_false, not_or]; omega)) (fun b b1 b2 => e2 b (by simp only [List.mem_cons, List.not_mem_nil, or_false, not_or]; omega)), qSt_of n5 (fun k hk => by rw [e1 23 (by decide)]) (e1 24 (by decide)) (e2 25 (by decide)), fun k hk => by rw [e2 61 (by decide)]; exact n6 k hk⟩, qLk_k h2 (by rw [e1 23 (by decide)]) (e1 29 (by decide)), qPy_k h3 (e2 7 (by decide)) (e2 55 (by decide)), qKp_k h4 (by rw [e1 49 (by decide)]) (fun b hb => e1 b (by revert b; decide)) (e2 14 (by decide)) (e2 77 (by decide)), qTr_k h5 (fun k _ => by rw [e1 49 (by decide)]) (fun b hb => e1 b (by revert b; decide)), qTp_k h6 (by rw [e1 49 (by decide)]) (e1 37 (by decide)) (e1 38 (by decide)) (e1 56 (by decide)), hs⟩
theorem row_I {j : Nat} (hj : j < 4) : 40 + 2 * j ∈ [40, 42, 44, 46, 78, 79] := by
  rcases (show j = 0 ∨ j = 1 ∨ j = 2 ∨ j = 3 by omega) with rfl | rfl | rfl | rfl <;> decide
theorem row_L {j : Nat} (hj : j < 4) : 41 + 2 * j ∈ [41, 43, 45, 47, 80] := by
  rcases (show j = 0 ∨ j = 1 ∨ j = 2 ∨ j = 3 by omega) with rfl | rfl | rfl | rfl <;> decide
theorem qSh_upd {M M' : pm_M} {j : Nat} (hj : j < 4) (h : qSh M) (hs : qSj M' j) (e1 : ∀ b, b ≠ 40 + 2 * j → b ≠ 78 → b ≠ 79 → M'.1 b = M.1 b) (e2 : ∀ b, b ≠ 41 + 2 * j → b ≠ 80 → M'.2 b = M.2 b) (e3 : ∀ k, k ≠ j → M'.1 78 k = M.1 78 k) (e4 : ∀ k, k ≠ j → M'.1 79 k = M.1 79 k) (e5 : ∀ k, k < 160 → (∀ i, i < 40 → k ≠ 40 * j + i) → M'.2 80 k = M.2 80 k) : qSh M' := by
  intro k hk
  by_cases q : k = j
  · rw [q]; exact hs
  · exact qSj_k (h k hk) (e1 _ (by omega) (by omega) (by omega)) (e3 k q) (e4 k q) (e2 _ (by omega) (by omega)) (fun i hi => e5 _ (by omega) (fun i' hi' => by omega))
theorem it_iff {a : Int32} {n : Nat} (hn : n ≤ 40) : (¬ a < 0 ∧ ¬ nI n ≤ a) ↔ pm_in a n := by
  constructor
  · rintro ⟨h1, h2⟩
    obtain ⟨k, hk, rfl⟩ := nI_ex h1
    rw [nI_le_iff (by omega) hk] at h2
    rw [nI_in_iff hk]
    omega
  · intro h
    obtain ⟨k, hk, hk2, rfl⟩ := pm_kx h
    exact ⟨nI_nneg hk2, by rw [nI_le_iff (by omega) hk2]; omega⟩
theorem q40 (j k : Nat) : (40 : Int32) * nI j + nI k = nI (40 * j + k) := by rw [show (40 : Int32) = nI 40 from rfl, nI_mul, qI_add]
theorem I_item {t : Nat} {M : pm_M} (h : qInv t M) (a b : Int32) : qBo t (sC_item a b) (sR_item a b) M := by
  refine qBo_pur h ?_
  obtain ⟨d, h1, h2, h3, h4, h5, h6, h7⟩ := id h
  by_cases i1 : pm_in a 4
  case neg =>
    refine ⟨-4611686018427387904, M, M, ?_, ?_, qScr_rf⟩
    · unfold sC_item
      rw [C_isSheet, q_bd, b2i_f i1, if_pos rfl]
    · unfold sR_item
      rw [R_isSheet, q_bd, b2i_f i1, if_pos rfl]
  obtain ⟨j, hj, -, rfl⟩ := pm_kx i1
  obtain ⟨n, n1, n2, n3, n4, n5, n6⟩ := h7 j hj
  have hck : (nI j).toNatClampNeg = j := nI_cl j (by omega)
  by_cases m : M.1 78 j = -1
  · refine ⟨-4611686018427387904, M, M, ?_, ?_, qScr_rf⟩
    · rw [C_item_g hj]
      unfold gC_item
      rw [b2i_t (by rw [n4]; exact m), if_pos (by decide)]
    · unfold sR_item
      rw [R_isSheet, q_bd, b2i_t i1, if_neg (by decide), if_pos i1]
      simp only [hck]
      rw [if_pos m]
  by_cases i2 : pm_in b n
  case neg =>
    refine ⟨-4611686018427387904, M, M, ?_, ?_, qScr_rf⟩
    · rw [C_item_g hj]
      unfold gC_item
      rw [b2i_f (by rw [n4]; exact m), if_neg (fun q => q rfl), n2, b2i_f (fun q => i2 ((it_iff n1).mp q)), if_neg (fun q => q rfl)]
    · unfold sR_item
      rw [R_isSheet, q_bd, b2i_t i1, if_neg (by decide), if_pos i1]
      simp only [hck]
      rw [if_neg m, if_pos i1, n3, R_inm (by omega), q_bd, b2i_f i2, if_pos rfl]
  obtain ⟨k, hk, -, rfl⟩ := pm_kx i2
  refine ⟨M.2 (41 + 2 * j) k, M, M, ?_, ?_, qScr_rf⟩
  · rw [C_item_g hj]
    unfold gC_item
    rw [b2i_f (by rw [n4]; exact m), if_neg (fun q => q rfl), n2, b2i_t ((it_iff n1).mpr i2), if_pos (by decide), if_pos (by rw [nI_in_iff (by omega)]; omega), nI_cl k (by omega)]
  · unfold sR_item
    rw [R_isSheet, q_bd, b2i_t i1, if_neg (by decide), if_pos i1]
    simp only [hck]
    rw [if_neg m, if_pos i1, n3, R_inm (by omega), q_bd, b2i_t i2, if_neg (by decide), q40, if_pos (by rw [nI_in_iff (by omega)]; omega), nI_cl _ (by omega), n6 k (by omega)]
theorem gcv_R {s : Int32} (v : Int64) {j : Nat} (hin : pm_in (nI j) 4) {ρ : Type} (h : s = 0 ∨ s = 1 ∨ s = 2) (J : Int64 → pm_M → Option ρ) (M : pm_M) : (if ¬ s = 0 then (if pm_in (nI j) 4 then (if ¬ s = (1 : Int32) then (J (v.toInt32.toInt16.toInt32.toInt64) M) else (J (v.toInt32.toInt64) M)) else none) else (J v M)) = J (gcv s v) M := by
  unfold gcv
  rcases h with rfl | rfl | rfl
  · rw [if_neg (fun q => q rfl), if_neg (by decide), if_neg (by decide)]
  · rw [if_pos (by decide), if_pos hin, if_neg (fun q => q rfl), if_pos rfl]
  · rw [if_pos (by decide), if_pos hin, if_pos (by decide), if_neg (by decide), if_pos rfl]
theorem I_put {t : Nat} {M : pm_M} (h : qInv t M) (a b : Int32) (v : Int64) : qBo t (sC_put a b v) (sR_put a b v) M := by
  obtain ⟨d, h1, h2, h3, h4, h5, h6, h7⟩ := id h
  by_cases i1 : pm_in a 4
  case neg =>
    refine ⟨-2, M, M, ?_, ?_, h⟩
    · unfold sC_put
      rw [C_isSheet, q_bd, b2i_f i1, if_neg (fun q => q rfl)]
    · unfold sR_put
      rw [R_isSheet, q_bd, b2i_f i1, if_neg (fun q => q rfl)]
  obtain ⟨j, hj, -, rfl⟩ := pm_kx i1
  obtain ⟨n, n1, n2, n3, n4, n5, n6⟩ := h7 j hj
  have hck : (nI j).toNatClampNeg = j := nI_cl j (by omega)
  by_cases m : M.1 78 j = -1
  · refine ⟨-11, M, M, ?_, ?_, h⟩
    · rw [C_put_g hj]
      unfold gC_put
      rw [b2i_t (by rw [n4]; exact m), if_neg (by decide)]
    · unfold sR_put
      rw [R_isSheet, q_bd, b2i_t i1, if_pos (by decide), if_pos i1]
      simp only [hck]
      rw [if_neg (fun q => q m)]
  by_cases i2 : pm_in b n
  case neg =>
    refine ⟨-12, M, M, ?_, ?_, h⟩
    · rw [C_put_g hj]
      unfold gC_put
      rw [b2i_f (by rw [n4]; exact m), if_pos rfl, n2, b2i_f (fun q => i2 ((it_iff n1).mp q)), if_neg (fun q => q rfl)]
    · unfold sR_put
      rw [R_isSheet, q_bd, b2i_t i1, if_pos (by decide), if_pos i1]
      simp only [hck]
      rw [if_pos m, if_pos i1, n3, R_inm (by omega), q_bd, b2i_f i2, if_neg (fun q => q rfl)]
  obtain ⟨k, hk, -, rfl⟩ := pm_kx i2
  have hin40 : pm_in (nI k) 40 := by rw [nI_in_iff (by omega)]; omega
  have hin160 : pm_in (nI (40 * j + k)) 160 := by rw [nI_in_iff (by omega)]; omega
  have hs : M.1 78 j = 0 ∨ M.1 78 j = 1 ∨ M.1 78 j = 2 := by
    rcases n5 with e | e
    · exact absurd e m
    · exact e
  refine ⟨1, pm_sL M (41 + 2 * j) k (gcv (M.1 78 j) v), pm_sL (pm_sL M (41 + 2 * j) k (gcv (M.1 78 j) v)) 80 (40 * j + k) (gcv (M.1 78 j) v), ?_, ?_, ?_⟩
  · rw [C_put_g hj]
    unfold gC_put
    rw [b2i_f (by rw [n4]; exact m), if_pos rfl, n2, b2i_t ((it_iff n1).mpr i2), if_pos (by decide), if_pos hin40, q_bv, nI_cl k (by omega), n4]
  · unfold sR_put
    rw [R_isSheet, q_bd, b2i_t i1, if_pos (by decide), if_pos i1]
    simp only [hck]
    show (if ¬ M.1 78 j = -1 then _ else _) = _
    rw [if_pos m, if_pos i1]
    show pm_bd (sR_in _ _ (M.1 79 j - 1).toInt64 _) _ = _
    rw [n3, R_inm (by omega), q_bd, b2i_t i2, if_pos (by decide), if_pos i1]
    refine q_jk (fun r => r = some ((1 : Int32), pm_sL (pm_sL M (41 + 2 * j) k (gcv (M.1 78 j) v)) 80 (40 * j + k) (gcv (M.1 78 j) v))) (fun (J : Int64 → pm_M → Option (Int32 × pm_M)) => J (gcv (M.1 78 j) v) (pm_sL M (41 + 2 * j) k (gcv (M.1 78 j) v)) = some ((1 : Int32), pm_sL (pm_sL M (41 + 2 * j) k (gcv (M.1 78 j) v)) 80 (40 * j + k) (gcv (M.1 78 j) v))) ?_ ?_
    · rw [q40, if_pos hin160, q_lt, nI_cl _ (by omega)]
    · intro J hJ
      exact (gcv_R v i1 hs J _).trans hJ
  · have hne : 41 + 2 * j ≠ 80 := by omega
    refine qInv_sh h (fun b hb => rfl) (fun b hb => ?_) (qSh_upd hj h7 ⟨n, n1, n2, n3, n4, n5, fun i hi => ?_⟩ (fun b _ _ _ => rfl) (fun b b1 b2 => ?_) (fun _ _ => rfl) (fun _ _ => rfl) (fun i hi ho => ?_))
    · have := row_L hj
      rw [sL_2, if_neg (fun q => hb (by rw [q]; decide)), sL_2, if_neg (fun q => hb (by rw [q]; exact this))]
    · rw [sL_2, if_neg hne, sL_2, if_pos rfl, sL_2, if_pos rfl, sL_2, if_neg (fun q => hne q.symm)]
      unfold vp_updL
      by_cases q : i = k
      · rw [if_pos q, if_pos (by omega)]
      · rw [if_neg q, if_neg (by omega)]
        exact n6 i hi
    · rw [sL_2, if_neg b2, sL_2, if_neg b1]
    · rw [sL_2, if_pos rfl, sL_2, if_neg (fun q => hne q.symm)]
      unfold vp_updL
      rw [if_neg (ho k (by omega))]
