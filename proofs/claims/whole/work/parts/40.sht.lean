/-! SHEETS: what each of the four does, alike -/

theorem sf01 : (((0 : Int32) = 1) : Prop) = False := eq_false (by decide)
theorem sf02 : (((0 : Int32) = 2) : Prop) = False := eq_false (by decide)
theorem sf03 : (((0 : Int32) = 3) : Prop) = False := eq_false (by decide)
theorem sf10 : (((1 : Int32) = 0) : Prop) = False := eq_false (by decide)
theorem sf12 : (((1 : Int32) = 2) : Prop) = False := eq_false (by decide)
theorem sf13 : (((1 : Int32) = 3) : Prop) = False := eq_false (by decide)
theorem sf20 : (((2 : Int32) = 0) : Prop) = False := eq_false (by decide)
theorem sf21 : (((2 : Int32) = 1) : Prop) = False := eq_false (by decide)
theorem sf23 : (((2 : Int32) = 3) : Prop) = False := eq_false (by decide)
theorem sf30 : (((3 : Int32) = 0) : Prop) = False := eq_false (by decide)
theorem sf31 : (((3 : Int32) = 1) : Prop) = False := eq_false (by decide)
theorem sf32 : (((3 : Int32) = 2) : Prop) = False := eq_false (by decide)
theorem sfn : ((-1 : Int32) = -1) = True := eq_self _
def gcv (s : Int32) (v : Int64) : Int64 := if s = 1 then v.toInt32.toInt64 else if s = 2 then v.toInt32.toInt16.toInt32.toInt64 else v
theorem C_isSheet (x : Int32) (M : pm_M) : sC_isSheet x M = some (b2i (pm_in x 4), M) := by
  unfold sC_isSheet
  by_cases h0 : x < 0
  · rw [if_pos h0, b2i_f (fun q => absurd h0 (by obtain ⟨k, hk, hk2, rfl⟩ := pm_kx q; exact nI_nneg hk2))]
  · rw [if_neg h0]
    obtain ⟨k, hk, rfl⟩ := nI_ex h0
    rw [show (4 : Int32) = nI 4 from rfl]
    by_cases h4 : 4 ≤ k
    · rw [if_pos ((nI_le_iff (by omega) hk).mpr h4), b2i_f (by rw [nI_in_iff hk]; omega)]
    · rw [if_neg (fun q => h4 ((nI_le_iff (by omega) hk).mp q)), b2i_t (by rw [nI_in_iff hk]; omega)]
theorem C_isSort (x : Int32) (M : pm_M) : sC_isSort x M = some (b2i (pm_in x 3), M) := by
  unfold sC_isSort
  by_cases h0 : x < 0
  · rw [if_pos h0, b2i_f (fun q => absurd h0 (by obtain ⟨k, hk, hk2, rfl⟩ := pm_kx q; exact nI_nneg hk2))]
  · rw [if_neg h0]
    obtain ⟨k, hk, rfl⟩ := nI_ex h0
    rw [q2]
    by_cases h4 : 2 < k
    · rw [if_pos ((nI_lt_iff (by omega) hk).mpr h4), b2i_f (by rw [nI_in_iff hk]; omega)]
    · rw [if_neg (fun q => h4 ((nI_lt_iff (by omega) hk).mp q)), b2i_t (by rw [nI_in_iff hk]; omega)]
theorem miss_40 (M : pm_M) : sSheet_isMissing_40 M = some (b2i (M.1 40 0 = -1), M) := by
  unfold sSheet_isMissing_40
  by_cases h : M.1 40 0 = -1
  · rw [if_neg (fun q => q h), b2i_t h]
  · rw [if_pos h, b2i_f h]
theorem hasI_40 (a : Int32) (M : pm_M) : sSheet_hasItem_40 a M = some (b2i (¬ a < 0 ∧ ¬ M.1 40 1 ≤ a), M) := by
  unfold sSheet_hasItem_40
  by_cases h : a < 0
  · rw [if_pos h, b2i_f (fun q => q.1 h)]
  rw [if_neg h]
  by_cases h2 : M.1 40 1 ≤ a
  · rw [if_pos h2, b2i_f (fun q => q.2 h2)]
  · rw [if_neg h2, b2i_t ⟨h, h2⟩]
theorem hasR_40 (a c : Int32) (M : pm_M) : sSheet_hasRun_40 a c M = some (b2i (¬ a < 0 ∧ ¬ c < 0 ∧ ¬ M.1 40 1 - c < a), M) := by
  unfold sSheet_hasRun_40
  by_cases h : a < 0
  · rw [if_pos h, b2i_f (fun q => q.1 h)]
  rw [if_neg h]
  by_cases h1 : c < 0
  · rw [if_pos h1, b2i_f (fun q => q.2.1 h1)]
  rw [if_neg h1]
  by_cases h2 : M.1 40 1 - c < a
  · rw [if_pos h2, b2i_f (fun q => q.2.2 h2)]
  · rw [if_neg h2, b2i_t ⟨h, h1, h2⟩]
theorem stor_40 (a : Int32) (v : Int64) (M : pm_M) : sSheet_store_40 a v M = if pm_in a 40 then some (pm_sL M 41 a.toNatClampNeg (gcv (M.1 40 0) v)) else none := by
  unfold sSheet_store_40 gcv
  by_cases h1 : M.1 40 0 = 1
  · rw [if_neg (fun q => q h1), if_pos h1]
    rfl
  rw [if_pos h1, if_neg h1]
  by_cases h2 : M.1 40 0 = 2
  · rw [if_neg (fun q => q h2), if_pos h2]
    rfl
  · rw [if_pos h2, if_neg h2]
    rfl
theorem fillL_41 (v : Int64) (M : pm_M) : sJArr_fillL_41 v M = some (mu_L M 41 (qfl (M.2 41) v 40)) := by
  unfold sJArr_fillL_41
  generalize hF : M.2 41 = F
  rw [show M = mu_L M 41 (qfl F v 0) by rw [qfl_0, ← hF]; exact (uL_self M 41).symm]
  refine q_for (fun i (g : Int32 → pm_M → Option pm_M) => g (nI i) (mu_L M 41 (qfl F v i))) (N := 40) ?_ ?_ (by omega)
  · intro i hi g
    rw [if_neg (by rw [show (40 : Int32) = nI 40 from rfl, nI_le_iff (by omega) (by omega)]; omega), if_pos (by rw [nI_in_iff (by omega)]; exact hi), q_lt, q_lt, nI_clamp (by omega), sL_u, uL_a, uL_uL, qfl_set, ← nI_succ]
  · intro g
    rw [if_pos (by decide), uL_uL]
theorem becm_40 (a c : Int32) (M : pm_M) : sSheet_become_40 a c M = some (mu_L (pm_sI (pm_sI M 40 0 a) 40 1 c) 41 (qfl (M.2 41) 0 40)) := by
  unfold sSheet_become_40
  rw [q_lt, q_lt, fillL_41, q_bv]
  rfl
theorem miss_42 (M : pm_M) : sSheet_isMissing_42 M = some (b2i (M.1 42 0 = -1), M) := by
  unfold sSheet_isMissing_42
  by_cases h : M.1 42 0 = -1
  · rw [if_neg (fun q => q h), b2i_t h]
  · rw [if_pos h, b2i_f h]
theorem hasI_42 (a : Int32) (M : pm_M) : sSheet_hasItem_42 a M = some (b2i (¬ a < 0 ∧ ¬ M.1 42 1 ≤ a), M) := by
  unfold sSheet_hasItem_42
  by_cases h : a < 0
  · rw [if_pos h, b2i_f (fun q => q.1 h)]
  rw [if_neg h]
  by_cases h2 : M.1 42 1 ≤ a
  · rw [if_pos h2, b2i_f (fun q => q.2 h2)]
  · rw [if_neg h2, b2i_t ⟨h, h2⟩]
theorem hasR_42 (a c : Int32) (M : pm_M) : sSheet_hasRun_42 a c M = some (b2i (¬ a < 0 ∧ ¬ c < 0 ∧ ¬ M.1 42 1 - c < a), M) := by
  unfold sSheet_hasRun_42
  by_cases h : a < 0
  · rw [if_pos h, b2i_f (fun q => q.1 h)]
  rw [if_neg h]
  by_cases h1 : c < 0
  · rw [if_pos h1, b2i_f (fun q => q.2.1 h1)]
  rw [if_neg h1]
  by_cases h2 : M.1 42 1 - c < a
  · rw [if_pos h2, b2i_f (fun q => q.2.2 h2)]
  · rw [if_neg h2, b2i_t ⟨h, h1, h2⟩]
theorem stor_42 (a : Int32) (v : Int64) (M : pm_M) : sSheet_store_42 a v M = if pm_in a 40 then some (pm_sL M 43 a.toNatClampNeg (gcv (M.1 42 0) v)) else none := by
  unfold sSheet_store_42 gcv
  by_cases h1 : M.1 42 0 = 1
  · rw [if_neg (fun q => q h1), if_pos h1]
    rfl
  rw [if_pos h1, if_neg h1]
  by_cases h2 : M.1 42 0 = 2
  · rw [if_neg (fun q => q h2), if_pos h2]
    rfl
  · rw [if_pos h2, if_neg h2]
    rfl
theorem fillL_43 (v : Int64) (M : pm_M) : sJArr_fillL_43 v M = some (mu_L M 43 (qfl (M.2 43) v 40)) := by
  unfold sJArr_fillL_43
  generalize hF : M.2 43 = F
  rw [show M = mu_L M 43 (qfl F v 0) by rw [qfl_0, ← hF]; exact (uL_self M 43).symm]
  refine q_for (fun i (g : Int32 → pm_M → Option pm_M) => g (nI i) (mu_L M 43 (qfl F v i))) (N := 40) ?_ ?_ (by omega)
  · intro i hi g
    rw [if_neg (by rw [show (40 : Int32) = nI 40 from rfl, nI_le_iff (by omega) (by omega)]; omega), if_pos (by rw [nI_in_iff (by omega)]; exact hi), q_lt, q_lt, nI_clamp (by omega), sL_u, uL_a, uL_uL, qfl_set, ← nI_succ]
  · intro g
    rw [if_pos (by decide), uL_uL]
theorem becm_42 (a c : Int32) (M : pm_M) : sSheet_become_42 a c M = some (mu_L (pm_sI (pm_sI M 42 0 a) 42 1 c) 43 (qfl (M.2 43) 0 40)) := by
  unfold sSheet_become_42
  rw [q_lt, q_lt, fillL_43, q_bv]
  rfl
theorem miss_44 (M : pm_M) : sSheet_isMissing_44 M = some (b2i (M.1 44 0 = -1), M) := by
  unfold sSheet_isMissing_44
  by_cases h : M.1 44 0 = -1
  · rw [if_neg (fun q => q h), b2i_t h]
  · rw [if_pos h, b2i_f h]
theorem hasI_44 (a : Int32) (M : pm_M) : sSheet_hasItem_44 a M = some (b2i (¬ a < 0 ∧ ¬ M.1 44 1 ≤ a), M) := by
  unfold sSheet_hasItem_44
  by_cases h : a < 0
  · rw [if_pos h, b2i_f (fun q => q.1 h)]
  rw [if_neg h]
  by_cases h2 : M.1 44 1 ≤ a
  · rw [if_pos h2, b2i_f (fun q => q.2 h2)]
  · rw [if_neg h2, b2i_t ⟨h, h2⟩]
theorem hasR_44 (a c : Int32) (M : pm_M) : sSheet_hasRun_44 a c M = some (b2i (¬ a < 0 ∧ ¬ c < 0 ∧ ¬ M.1 44 1 - c < a), M) := by
  unfold sSheet_hasRun_44
  by_cases h : a < 0
  · rw [if_pos h, b2i_f (fun q => q.1 h)]
  rw [if_neg h]
  by_cases h1 : c < 0
  · rw [if_pos h1, b2i_f (fun q => q.2.1 h1)]
  rw [if_neg h1]
  by_cases h2 : M.1 44 1 - c < a
  · rw [if_pos h2, b2i_f (fun q => q.2.2 h2)]
  · rw [if_neg h2, b2i_t ⟨h, h1, h2⟩]
theorem stor_44 (a : Int32) (v : Int64) (M : pm_M) : sSheet_store_44 a v M = if pm_in a 40 then some (pm_sL M 45 a.toNatClampNeg (gcv (M.1 44 0) v)) else none := by
  unfold sSheet_store_44 gcv
  by_cases h1 : M.1 44 0 = 1
  · rw [if_neg (fun q => q h1), if_pos h1]
    rfl
  rw [if_pos h1, if_neg h1]
  by_cases h2 : M.1 44 0 = 2
  · rw [if_neg (fun q => q h2), if_pos h2]
    rfl
  · rw [if_pos h2, if_neg h2]
    rfl
theorem fillL_45 (v : Int64) (M : pm_M) : sJArr_fillL_45 v M = some (mu_L M 45 (qfl (M.2 45) v 40)) := by
  unfold sJArr_fillL_45
  generalize hF : M.2 45 = F
  rw [show M = mu_L M 45 (qfl F v 0) by rw [qfl_0, ← hF]; exact (uL_self M 45).symm]
  refine q_for (fun i (g : Int32 → pm_M → Option pm_M) => g (nI i) (mu_L M 45 (qfl F v i))) (N := 40) ?_ ?_ (by omega)
  · intro i hi g
    rw [if_neg (by rw [show (40 : Int32) = nI 40 from rfl, nI_le_iff (by omega) (by omega)]; omega), if_pos (by rw [nI_in_iff (by omega)]; exact hi), q_lt, q_lt, nI_clamp (by omega), sL_u, uL_a, uL_uL, qfl_set, ← nI_succ]
  · intro g
    rw [if_pos (by decide), uL_uL]
theorem becm_44 (a c : Int32) (M : pm_M) : sSheet_become_44 a c M = some (mu_L (pm_sI (pm_sI M 44 0 a) 44 1 c) 45 (qfl (M.2 45) 0 40)) := by
  unfold sSheet_become_44
  rw [q_lt, q_lt, fillL_45, q_bv]
  rfl
theorem miss_46 (M : pm_M) : sSheet_isMissing_46 M = some (b2i (M.1 46 0 = -1), M) := by
  unfold sSheet_isMissing_46
  by_cases h : M.1 46 0 = -1
  · rw [if_neg (fun q => q h), b2i_t h]
  · rw [if_pos h, b2i_f h]
theorem hasI_46 (a : Int32) (M : pm_M) : sSheet_hasItem_46 a M = some (b2i (¬ a < 0 ∧ ¬ M.1 46 1 ≤ a), M) := by
  unfold sSheet_hasItem_46
  by_cases h : a < 0
  · rw [if_pos h, b2i_f (fun q => q.1 h)]
  rw [if_neg h]
  by_cases h2 : M.1 46 1 ≤ a
  · rw [if_pos h2, b2i_f (fun q => q.2 h2)]
  · rw [if_neg h2, b2i_t ⟨h, h2⟩]
theorem hasR_46 (a c : Int32) (M : pm_M) : sSheet_hasRun_46 a c M = some (b2i (¬ a < 0 ∧ ¬ c < 0 ∧ ¬ M.1 46 1 - c < a), M) := by
  unfold sSheet_hasRun_46
  by_cases h : a < 0
  · rw [if_pos h, b2i_f (fun q => q.1 h)]
  rw [if_neg h]
  by_cases h1 : c < 0
  · rw [if_pos h1, b2i_f (fun q => q.2.1 h1)]
  rw [if_neg h1]
  by_cases h2 : M.1 46 1 - c < a
  · rw [if_pos h2, b2i_f (fun q => q.2.2 h2)]
  · rw [if_neg h2, b2i_t ⟨h, h1, h2⟩]
theorem stor_46 (a : Int32) (v : Int64) (M : pm_M) : sSheet_store_46 a v M = if pm_in a 40 then some (pm_sL M 47 a.toNatClampNeg (gcv (M.1 46 0) v)) else none := by
  unfold sSheet_store_46 gcv
  by_cases h1 : M.1 46 0 = 1
  · rw [if_neg (fun q => q h1), if_pos h1]
    rfl
  rw [if_pos h1, if_neg h1]
  by_cases h2 : M.1 46 0 = 2
  · rw [if_neg (fun q => q h2), if_pos h2]
    rfl
  · rw [if_pos h2, if_neg h2]
    rfl
theorem fillL_47 (v : Int64) (M : pm_M) : sJArr_fillL_47 v M = some (mu_L M 47 (qfl (M.2 47) v 40)) := by
  unfold sJArr_fillL_47
  generalize hF : M.2 47 = F
  rw [show M = mu_L M 47 (qfl F v 0) by rw [qfl_0, ← hF]; exact (uL_self M 47).symm]
  refine q_for (fun i (g : Int32 → pm_M → Option pm_M) => g (nI i) (mu_L M 47 (qfl F v i))) (N := 40) ?_ ?_ (by omega)
  · intro i hi g
    rw [if_neg (by rw [show (40 : Int32) = nI 40 from rfl, nI_le_iff (by omega) (by omega)]; omega), if_pos (by rw [nI_in_iff (by omega)]; exact hi), q_lt, q_lt, nI_clamp (by omega), sL_u, uL_a, uL_uL, qfl_set, ← nI_succ]
  · intro g
    rw [if_pos (by decide), uL_uL]
theorem becm_46 (a c : Int32) (M : pm_M) : sSheet_become_46 a c M = some (mu_L (pm_sI (pm_sI M 46 0 a) 46 1 c) 47 (qfl (M.2 47) 0 40)) := by
  unfold sSheet_become_46
  rw [q_lt, q_lt, fillL_47, q_bv]
  rfl
def gC_put (i l : Nat) (a2 : Int32) (v : Int64) (M : pm_M) : Option (Int32 × pm_M) := if b2i (M.1 i 0 = -1) = 0 then (if ¬ b2i (¬ a2 < 0 ∧ ¬ M.1 i 1 ≤ a2) = 0 then pm_bv (if pm_in a2 40 then some (pm_sL M l a2.toNatClampNeg (gcv (M.1 i 0) v)) else none) fun M7 => some ((1 : Int32), M7) else some ((-12 : Int32), M)) else some ((-11 : Int32), M)
def gC_item (i l : Nat) (a2 : Int32) (M : pm_M) : Option (Int64 × pm_M) := if ¬ b2i (M.1 i 0 = -1) = 0 then some ((-4611686018427387904 : Int64), M) else if ¬ b2i (¬ a2 < 0 ∧ ¬ M.1 i 1 ≤ a2) = 0 then (if pm_in a2 40 then some (M.2 l a2.toNatClampNeg, M) else none) else some ((-4611686018427387904 : Int64), M)
def gC_copy (i l i' l' : Nat) (a2 a4 a5 : Int32) (M : pm_M) : Option (Int32 × pm_M) := if ¬ b2i (M.1 i 0 = -1) = 0 then some ((-11 : Int32), M) else if b2i (M.1 i' 0 = -1) = 0 then (if M.1 i 0 = M.1 i' 0 then (if b2i (¬ a2 < 0 ∧ ¬ a5 < 0 ∧ ¬ M.1 i 1 - a5 < a2) = 0 then some ((-12 : Int32), M) else if ¬ b2i (¬ a4 < 0 ∧ ¬ a5 < 0 ∧ ¬ M.1 i' 1 - a5 < a4) = 0 then (if ¬ a2 < 0 ∧ ¬ a4 < 0 ∧ ¬ a5 < 0 ∧ a2.toNatClampNeg + a5.toNatClampNeg ≤ 40 ∧ a4.toNatClampNeg + a5.toNatClampNeg ≤ 40 ∧ (([] : List Value).map fun v => v.category).sum ≤ 8 then some (a5, pm_cL M l l' a2.toNatClampNeg a4.toNatClampNeg a5.toNatClampNeg) else none) else some ((-12 : Int32), M)) else some ((-13 : Int32), M)) else some ((-11 : Int32), M)
theorem C_put_g {j : Nat} (hj : j < 4) (a2 : Int32) (v : Int64) (M : pm_M) : sC_put (nI j) a2 v M = gC_put (40 + 2 * j) (41 + 2 * j) a2 v M := by
  have hin : pm_in (nI j) 4 := by rw [nI_in_iff (by omega)]; exact hj
  unfold sC_put
  rw [C_isSheet, q_bd, b2i_t hin, if_pos (by decide)]
  unfold gC_put
  rcases (show j = 0 ∨ j = 1 ∨ j = 2 ∨ j = 3 by omega) with rfl | rfl | rfl | rfl
  · simp only [show nI 0 = (0 : Int32) from rfl, show 40 + 2 * 0 = 40 from rfl, show 41 + 2 * 0 = 41 from rfl, sf01, sf02, sf03, sf10, sf12, sf13, sf20, sf21, sf23, sf30, sf31, sf32, eq_self, if_true, if_false, not_true_eq_false, not_false_eq_true, q_bd, q_lt, miss_40, hasI_40, stor_40]
  · simp only [show nI 1 = (1 : Int32) from rfl, show 40 + 2 * 1 = 42 from rfl, show 41 + 2 * 1 = 43 from rfl, sf01, sf02, sf03, sf10, sf12, sf13, sf20, sf21, sf23, sf30, sf31, sf32, eq_self, if_true, if_false, not_true_eq_false, not_false_eq_true, q_bd, q_lt, miss_42, hasI_42, stor_42]
  · simp only [show nI 2 = (2 : Int32) from rfl, show 40 + 2 * 2 = 44 from rfl, show 41 + 2 * 2 = 45 from rfl, sf01, sf02, sf03, sf10, sf12, sf13, sf20, sf21, sf23, sf30, sf31, sf32, eq_self, if_true, if_false, not_true_eq_false, not_false_eq_true, q_bd, q_lt, miss_44, hasI_44, stor_44]
  · simp only [show nI 3 = (3 : Int32) from rfl, show 40 + 2 * 3 = 46 from rfl, show 41 + 2 * 3 = 47 from rfl, sf01, sf02, sf03, sf10, sf12, sf13, sf20, sf21, sf23, sf30, sf31, sf32, eq_self, if_true, if_false, not_true_eq_false, not_false_eq_true, q_bd, q_lt, miss_46, hasI_46, stor_46]
theorem C_item_g {j : Nat} (hj : j < 4) (a2 : Int32) (M : pm_M) : sC_item (nI j) a2 M = gC_item (40 + 2 * j) (41 + 2 * j) a2 M := by
  have hin : pm_in (nI j) 4 := by rw [nI_in_iff (by omega)]; exact hj
  unfold sC_item
  rw [C_isSheet, q_bd, b2i_t hin, if_neg (by decide)]
  unfold gC_item
  rcases (show j = 0 ∨ j = 1 ∨ j = 2 ∨ j = 3 by omega) with rfl | rfl | rfl | rfl
  · simp only [show nI 0 = (0 : Int32) from rfl, show 40 + 2 * 0 = 40 from rfl, show 41 + 2 * 0 = 41 from rfl, sf01, sf02, sf03, sf10, sf12, sf13, sf20, sf21, sf23, sf30, sf31, sf32, eq_self, if_true, if_false, not_true_eq_false, not_false_eq_true, q_bd, q_lt, miss_40, hasI_40]
  · simp only [show nI 1 = (1 : Int32) from rfl, show 40 + 2 * 1 = 42 from rfl, show 41 + 2 * 1 = 43 from rfl, sf01, sf02, sf03, sf10, sf12, sf13, sf20, sf21, sf23, sf30, sf31, sf32, eq_self, if_true, if_false, not_true_eq_false, not_false_eq_true, q_bd, q_lt, miss_42, hasI_42]
  · simp only [show nI 2 = (2 : Int32) from rfl, show 40 + 2 * 2 = 44 from rfl, show 41 + 2 * 2 = 45 from rfl, sf01, sf02, sf03, sf10, sf12, sf13, sf20, sf21, sf23, sf30, sf31, sf32, eq_self, if_true, if_false, not_true_eq_false, not_false_eq_true, q_bd, q_lt, miss_44, hasI_44]
  · simp only [show nI 3 = (3 : Int32) from rfl, show 40 + 2 * 3 = 46 from rfl, show 41 + 2 * 3 = 47 from rfl, sf01, sf02, sf03, sf10, sf12, sf13, sf20, sf21, sf23, sf30, sf31, sf32, eq_self, if_true, if_false, not_true_eq_false, not_false_eq_true, q_bd, q_lt, miss_46, hasI_46]
theorem C_copy_g {j k : Nat} (hj : j < 4) (hk : k < 4) (a2 a4 a5 : Int32) (M : pm_M) : sC_copy (nI j) a2 (nI k) a4 a5 M = gC_copy (40 + 2 * j) (41 + 2 * j) (40 + 2 * k) (41 + 2 * k) a2 a4 a5 M := by
  have hin : pm_in (nI j) 4 := by rw [nI_in_iff (by omega)]; exact hj
  have hin2 : pm_in (nI k) 4 := by rw [nI_in_iff (by omega)]; exact hk
  unfold sC_copy
  rw [C_isSheet, q_bd, b2i_t hin, if_neg (by decide), C_isSheet, q_bd, b2i_t hin2, if_pos (by decide)]
  unfold gC_copy
  rcases (show j = 0 ∨ j = 1 ∨ j = 2 ∨ j = 3 by omega) with rfl | rfl | rfl | rfl <;> rcases (show k = 0 ∨ k = 1 ∨ k = 2 ∨ k = 3 by omega) with rfl | rfl | rfl | rfl
  · simp only [show nI 0 = (0 : Int32) from rfl, show 40 + 2 * 0 = 40 from rfl, show 41 + 2 * 0 = 41 from rfl, sf01, sf02, sf03, sf10, sf12, sf13, sf20, sf21, sf23, sf30, sf31, sf32, eq_self, if_true, if_false, not_true_eq_false, not_false_eq_true, q_bd, q_lt, miss_40, hasR_40]
  · simp only [show nI 0 = (0 : Int32) from rfl, show 40 + 2 * 0 = 40 from rfl, show 41 + 2 * 0 = 41 from rfl, show nI 1 = (1 : Int32) from rfl, show 40 + 2 * 1 = 42 from rfl, show 41 + 2 * 1 = 43 from rfl, sf01, sf02, sf03, sf10, sf12, sf13, sf20, sf21, sf23, sf30, sf31, sf32, eq_self, if_true, if_false, not_true_eq_false, not_false_eq_true, q_bd, q_lt, miss_40, hasR_40, miss_42, hasR_42]
  · simp only [show nI 0 = (0 : Int32) from rfl, show 40 + 2 * 0 = 40 from rfl, show 41 + 2 * 0 = 41 from rfl, show nI 2 = (2 : Int32) from rfl, show 40 + 2 * 2 = 44 from rfl, show 41 + 2 * 2 = 45 from rfl, sf01, sf02, sf03, sf10, sf12, sf13, sf20, sf21, sf23, sf30, sf31, sf32, eq_self, if_true, if_false, not_true_eq_false, not_false_eq_true, q_bd, q_lt, miss_40, hasR_40, miss_44, hasR_44]
  · simp only [show nI 0 = (0 : Int32) from rfl, show 40 + 2 * 0 = 40 from rfl, show 41 + 2 * 0 = 41 from rfl, show nI 3 = (3 : Int32) from rfl, show 40 + 2 * 3 = 46 from rfl, show 41 + 2 * 3 = 47 from rfl, sf01, sf02, sf03, sf10, sf12, sf13, sf20, sf21, sf23, sf30, sf31, sf32, eq_self, if_true, if_false, not_true_eq_false, not_false_eq_true, q_bd, q_lt, miss_40, hasR_40, miss_46, hasR_46]
  · simp only [show nI 1 = (1 : Int32) from rfl, show 40 + 2 * 1 = 42 from rfl, show 41 + 2 * 1 = 43 from rfl, show nI 0 = (0 : Int32) from rfl, show 40 + 2 * 0 = 40 from rfl, show 41 + 2 * 0 = 41 from rfl, sf01, sf02, sf03, sf10, sf12, sf13, sf20, sf21, sf23, sf30, sf31, sf32, eq_self, if_true, if_false, not_true_eq_false, not_false_eq_true, q_bd, q_lt, miss_42, hasR_42, miss_40, hasR_40]
  · simp only [show nI 1 = (1 : Int32) from rfl, show 40 + 2 * 1 = 42 from rfl, show 41 + 2 * 1 = 43 from rfl, sf01, sf02, sf03, sf10, sf12, sf13, sf20, sf21, sf23, sf30, sf31, sf32, eq_self, if_true, if_false, not_true_eq_false, not_false_eq_true, q_bd, q_lt, miss_42, hasR_42]
  · simp only [show nI 1 = (1 : Int32) from rfl, show 40 + 2 * 1 = 42 from rfl, show 41 + 2 * 1 = 43 from rfl, show nI 2 = (2 : Int32) from rfl, show 40 + 2 * 2 = 44 from rfl, show 41 + 2 * 2 = 45 from rfl, sf01, sf02, sf03, sf10, sf12, sf13, sf20, sf21, sf23, sf30, sf31, sf32, eq_self, if_true, if_false, not_true_eq_false, not_false_eq_true, q_bd, q_lt, miss_42, hasR_42, miss_44, hasR_44]
  · simp only [show nI 1 = (1 : Int32) from rfl, show 40 + 2 * 1 = 42 from rfl, show 41 + 2 * 1 = 43 from rfl, show nI 3 = (3 : Int32) from rfl, show 40 + 2 * 3 = 46 from rfl, show 41 + 2 * 3 = 47 from rfl, sf01, sf02, sf03, sf10, sf12, sf13, sf20, sf21, sf23, sf30, sf31, sf32, eq_self, if_true, if_false, not_true_eq_false, not_false_eq_true, q_bd, q_lt, miss_42, hasR_42, miss_46, hasR_46]
  · simp only [show nI 2 = (2 : Int32) from rfl, show 40 + 2 * 2 = 44 from rfl, show 41 + 2 * 2 = 45 from rfl, show nI 0 = (0 : Int32) from rfl, show 40 + 2 * 0 = 40 from rfl, show 41 + 2 * 0 = 41 from rfl, sf01, sf02, sf03, sf10, sf12, sf13, sf20, sf21, sf23, sf30, sf31, sf32, eq_self, if_true, if_false, not_true_eq_false, not_false_eq_true, q_bd, q_lt, miss_44, hasR_44, miss_40, hasR_40]
  · simp only [show nI 2 = (2 : Int32) from rfl, show 40 + 2 * 2 = 44 from rfl, show 41 + 2 * 2 = 45 from rfl, show nI 1 = (1 : Int32) from rfl, show 40 + 2 * 1 = 42 from rfl, show 41 + 2 * 1 = 43 from rfl, sf01, sf02, sf03, sf10, sf12, sf13, sf20, sf21, sf23, sf30, sf31, sf32, eq_self, if_true, if_false, not_true_eq_false, not_false_eq_true, q_bd, q_lt, miss_44, hasR_44, miss_42, hasR_42]
  · simp only [show nI 2 = (2 : Int32) from rfl, show 40 + 2 * 2 = 44 from rfl, show 41 + 2 * 2 = 45 from rfl, sf01, sf02, sf03, sf10, sf12, sf13, sf20, sf21, sf23, sf30, sf31, sf32, eq_self, if_true, if_false, not_true_eq_false, not_false_eq_true, q_bd, q_lt, miss_44, hasR_44]
  · simp only [show nI 2 = (2 : Int32) from rfl, show 40 + 2 * 2 = 44 from rfl, show 41 + 2 * 2 = 45 from rfl, show nI 3 = (3 : Int32) from rfl, show 40 + 2 * 3 = 46 from rfl, show 41 + 2 * 3 = 47 from rfl, sf01, sf02, sf03, sf10, sf12, sf13, sf20, sf21, sf23, sf30, sf31, sf32, eq_self, if_true, if_false, not_true_eq_false, not_false_eq_true, q_bd, q_lt, miss_44, hasR_44, miss_46, hasR_46]
  · simp only [show nI 3 = (3 : Int32) from rfl, show 40 + 2 * 3 = 46 from rfl, show 41 + 2 * 3 = 47 from rfl, show nI 0 = (0 : Int32) from rfl, show 40 + 2 * 0 = 40 from rfl, show 41 + 2 * 0 = 41 from rfl, sf01, sf02, sf03, sf10, sf12, sf13, sf20, sf21, sf23, sf30, sf31, sf32, eq_self, if_true, if_false, not_true_eq_false, not_false_eq_true, q_bd, q_lt, miss_46, hasR_46, miss_40, hasR_40]
  · simp only [show nI 3 = (3 : Int32) from rfl, show 40 + 2 * 3 = 46 from rfl, show 41 + 2 * 3 = 47 from rfl, show nI 1 = (1 : Int32) from rfl, show 40 + 2 * 1 = 42 from rfl, show 41 + 2 * 1 = 43 from rfl, sf01, sf02, sf03, sf10, sf12, sf13, sf20, sf21, sf23, sf30, sf31, sf32, eq_self, if_true, if_false, not_true_eq_false, not_false_eq_true, q_bd, q_lt, miss_46, hasR_46, miss_42, hasR_42]
  · simp only [show nI 3 = (3 : Int32) from rfl, show 40 + 2 * 3 = 46 from rfl, show 41 + 2 * 3 = 47 from rfl, show nI 2 = (2 : Int32) from rfl, show 40 + 2 * 2 = 44 from rfl, show 41 + 2 * 2 = 45 from rfl, sf01, sf02, sf03, sf10, sf12, sf13, sf20, sf21, sf23, sf30, sf31, sf32, eq_self, if_true, if_false, not_true_eq_false, not_false_eq_true, q_bd, q_lt, miss_46, hasR_46, miss_44, hasR_44]
  · simp only [show nI 3 = (3 : Int32) from rfl, show 40 + 2 * 3 = 46 from rfl, show 41 + 2 * 3 = 47 from rfl, sf01, sf02, sf03, sf10, sf12, sf13, sf20, sf21, sf23, sf30, sf31, sf32, eq_self, if_true, if_false, not_true_eq_false, not_false_eq_true, q_bd, q_lt, miss_46, hasR_46]
def gC_sheet (i l : Nat) (a2 a3 : Int32) (M : pm_M) : Option (Int32 × pm_M) := if a2 = -1 then some ((1 : Int32), mu_L (pm_sI (pm_sI M i 0 (-1)) i 1 0) l (qfl (M.2 l) 0 40)) else if pm_in a2 3 then (if a3 ≤ 40 then (if 0 ≤ a3 then some ((1 : Int32), mu_L (pm_sI (pm_sI M i 0 a2) i 1 a3) l (qfl (M.2 l) 0 40)) else some ((-14 : Int32), M)) else some ((-2 : Int32), M)) else some ((-2 : Int32), M)
theorem C_sheet_g {j : Nat} (hj : j < 4) (a2 a3 : Int32) (M : pm_M) : sC_sheet (nI j) a2 a3 M = gC_sheet (40 + 2 * j) (41 + 2 * j) a2 a3 M := by
  have hin : pm_in (nI j) 4 := by rw [nI_in_iff (by omega)]; exact hj
  unfold sC_sheet
  rw [C_isSheet, q_bd, b2i_t hin, if_neg (by decide), q_jn]
  unfold gC_sheet
  by_cases m : a2 = -1
  · rw [if_pos m]
    simp only [m, eq_self, if_true, if_false, not_true_eq_false]
    rcases (show j = 0 ∨ j = 1 ∨ j = 2 ∨ j = 3 by omega) with rfl | rfl | rfl | rfl
    · simp only [show nI 0 = (0 : Int32) from rfl, show 40 + 2 * 0 = 40 from rfl, show 41 + 2 * 0 = 41 from rfl, sf01, sf02, sf03, sf10, sf12, sf13, sf20, sf21, sf23, sf30, sf31, sf32, eq_self, if_true, if_false, not_true_eq_false, not_false_eq_true, q_bd, q_lt, becm_40, q_bv]
    · simp only [show nI 1 = (1 : Int32) from rfl, show 40 + 2 * 1 = 42 from rfl, show 41 + 2 * 1 = 43 from rfl, sf01, sf02, sf03, sf10, sf12, sf13, sf20, sf21, sf23, sf30, sf31, sf32, eq_self, if_true, if_false, not_true_eq_false, not_false_eq_true, q_bd, q_lt, becm_42, q_bv]
    · simp only [show nI 2 = (2 : Int32) from rfl, show 40 + 2 * 2 = 44 from rfl, show 41 + 2 * 2 = 45 from rfl, sf01, sf02, sf03, sf10, sf12, sf13, sf20, sf21, sf23, sf30, sf31, sf32, eq_self, if_true, if_false, not_true_eq_false, not_false_eq_true, q_bd, q_lt, becm_44, q_bv]
    · simp only [show nI 3 = (3 : Int32) from rfl, show 40 + 2 * 3 = 46 from rfl, show 41 + 2 * 3 = 47 from rfl, sf01, sf02, sf03, sf10, sf12, sf13, sf20, sf21, sf23, sf30, sf31, sf32, eq_self, if_true, if_false, not_true_eq_false, not_false_eq_true, q_bd, q_lt, becm_46, q_bv]
  rw [if_neg m, if_neg m, C_isSort, q_bd]
  by_cases s : pm_in a2 3
  case neg => rw [b2i_f s, if_neg (fun q => q rfl), if_neg s]
  rw [b2i_t s, if_pos (by decide)]
  dsimp only
  rw [if_pos m, if_pos s]
  by_cases z1 : a3 ≤ 40
  case neg => rw [if_neg z1, if_neg z1]
  rw [if_pos z1, if_pos z1]
  by_cases z2 : 0 ≤ a3
  case neg => rw [if_neg z2, if_neg z2]
  rw [if_pos z2, if_pos z2]
  rcases (show j = 0 ∨ j = 1 ∨ j = 2 ∨ j = 3 by omega) with rfl | rfl | rfl | rfl
  · simp only [show nI 0 = (0 : Int32) from rfl, show 40 + 2 * 0 = 40 from rfl, show 41 + 2 * 0 = 41 from rfl, sf01, sf02, sf03, sf10, sf12, sf13, sf20, sf21, sf23, sf30, sf31, sf32, eq_self, if_true, if_false, not_true_eq_false, not_false_eq_true, q_bd, q_lt, becm_40, q_bv]
  · simp only [show nI 1 = (1 : Int32) from rfl, show 40 + 2 * 1 = 42 from rfl, show 41 + 2 * 1 = 43 from rfl, sf01, sf02, sf03, sf10, sf12, sf13, sf20, sf21, sf23, sf30, sf31, sf32, eq_self, if_true, if_false, not_true_eq_false, not_false_eq_true, q_bd, q_lt, becm_42, q_bv]
  · simp only [show nI 2 = (2 : Int32) from rfl, show 40 + 2 * 2 = 44 from rfl, show 41 + 2 * 2 = 45 from rfl, sf01, sf02, sf03, sf10, sf12, sf13, sf20, sf21, sf23, sf30, sf31, sf32, eq_self, if_true, if_false, not_true_eq_false, not_false_eq_true, q_bd, q_lt, becm_44, q_bv]
  · simp only [show nI 3 = (3 : Int32) from rfl, show 40 + 2 * 3 = 46 from rfl, show 41 + 2 * 3 = 47 from rfl, sf01, sf02, sf03, sf10, sf12, sf13, sf20, sf21, sf23, sf30, sf31, sf32, eq_self, if_true, if_false, not_true_eq_false, not_false_eq_true, q_bd, q_lt, becm_46, q_bv]
