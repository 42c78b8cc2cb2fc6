/-! IMAGE AND BACK -/
def qcy {α : Type} (G F : Nat → α) (n : Nat) : Nat → α := fun k => if k < n then G k else F k
theorem qcy_0 {α : Type} (G F : Nat → α) : qcy G F 0 = F := by
  funext k
  unfold qcy
  rw [if_neg (by omega)]
theorem qcy_at {α : Type} (G F : Nat → α) {n k : Nat} (h : k < n) : qcy G F n k = G k := if_pos h
theorem qcy_ge {α : Type} (G F : Nat → α) {n k : Nat} (h : ¬ k < n) : qcy G F n k = F k := if_neg h
theorem qcy_s (G F : Nat → Int32) (n : Nat) : upd (qcy G F n) n (G n) = qcy G F (n + 1) := by
  funext k
  unfold upd qcy
  by_cases h : k = n
  · rw [if_pos h, if_pos (by omega), h]
  · rw [if_neg h]
    by_cases h2 : k < n
    · rw [if_pos h2, if_pos (by omega)]
    · rw [if_neg h2, if_neg (by omega)]
theorem cI_u (M : pm_M) (a b n : Nat) : pm_cI M a b 0 0 n = mu_I M b (qcy (M.1 a) (M.1 b) n) := by
  unfold pm_cI mu_I
  refine Prod.ext ?_ rfl
  funext x
  funext j
  show (if x = b then va_cpy (M.1 a) (M.1 b) 0 0 n j else M.1 x j) = (if x = b then qcy (M.1 a) (M.1 b) n else M.1 x) j
  by_cases h : x = b
  · rw [if_pos h, if_pos h]
    unfold va_cpy qcy
    rw [Nat.zero_add, Nat.zero_add, Nat.sub_zero]
    by_cases h2 : j < n
    · rw [if_pos ⟨Nat.zero_le _, h2⟩, if_pos h2]
    · rw [if_neg (fun q => h2 q.2), if_neg h2]
  · rw [if_neg h, if_neg h]
theorem cL_u (M : pm_M) (a b n : Nat) : pm_cL M a b 0 0 n = mu_L M b (qcy (M.2 a) (M.2 b) n) := by
  unfold pm_cL mu_L
  refine Prod.ext rfl ?_
  funext x
  funext j
  show (if x = b then va_cpy (M.2 a) (M.2 b) 0 0 n j else M.2 x j) = (if x = b then qcy (M.2 a) (M.2 b) n else M.2 x) j
  by_cases h : x = b
  · rw [if_pos h, if_pos h]
    unfold va_cpy qcy
    rw [Nat.zero_add, Nat.zero_add, Nat.sub_zero]
    by_cases h2 : j < n
    · rw [if_pos ⟨Nat.zero_le _, h2⟩, if_pos h2]
    · rw [if_neg (fun q => h2 q.2), if_neg h2]
  · rw [if_neg h, if_neg h]
theorem cpy_50_72 (M : pm_M) : sR_copies_50_72 (5 : Int32) M = some (mu_I M 72 (qcy (M.1 50) (M.1 72) 5)) := by
  unfold sR_copies_50_72
  generalize hF : M.1 72 = F
  rw [show M = mu_I M 72 (qcy (M.1 50) F 0) by rw [qcy_0, ← hF]; exact (uI_self M 72).symm]
  have ha : ∀ f, (mu_I M 72 f).1 50 = M.1 50 := fun f => uI_0 _ _ _ _ (by decide)
  rw [ha]
  refine q_for (fun i (g : Int32 → pm_M → Option pm_M) => g (nI i) (mu_I M 72 (qcy (M.1 50) F i))) (N := 5) ?_ ?_ (by omega)
  · intro i hi g
    have hin : pm_in (nI i) 5 := by rw [nI_in_iff (by omega)]; exact hi
    rw [if_neg (by rw [show (5 : Int32) = nI 5 from rfl, nI_le_iff (by omega) (by omega)]; omega), if_pos hin, if_pos hin, q_lt, q_lt, nI_cl i (by omega), sI_u, uI_a, ha, uI_uI, qcy_s, ← nI_succ]
  · intro g
    rw [if_pos (by decide), uI_uI]
theorem cpy_51_73 (M : pm_M) : sR_copies_51_73 (10 : Int32) M = some (mu_I M 73 (qcy (M.1 51) (M.1 73) 10)) := by
  unfold sR_copies_51_73
  generalize hF : M.1 73 = F
  rw [show M = mu_I M 73 (qcy (M.1 51) F 0) by rw [qcy_0, ← hF]; exact (uI_self M 73).symm]
  have ha : ∀ f, (mu_I M 73 f).1 51 = M.1 51 := fun f => uI_0 _ _ _ _ (by decide)
  rw [ha]
  refine q_for (fun i (g : Int32 → pm_M → Option pm_M) => g (nI i) (mu_I M 73 (qcy (M.1 51) F i))) (N := 10) ?_ ?_ (by omega)
  · intro i hi g
    have hin : pm_in (nI i) 10 := by rw [nI_in_iff (by omega)]; exact hi
    rw [if_neg (by rw [show (10 : Int32) = nI 10 from rfl, nI_le_iff (by omega) (by omega)]; omega), if_pos hin, if_pos hin, q_lt, q_lt, nI_cl i (by omega), sI_u, uI_a, ha, uI_uI, qcy_s, ← nI_succ]
  · intro g
    rw [if_pos (by decide), uI_uI]
theorem cpy_52_74 (M : pm_M) : sR_copies_52_74 (2 : Int32) M = some (mu_I M 74 (qcy (M.1 52) (M.1 74) 2)) := by
  unfold sR_copies_52_74
  generalize hF : M.1 74 = F
  rw [show M = mu_I M 74 (qcy (M.1 52) F 0) by rw [qcy_0, ← hF]; exact (uI_self M 74).symm]
  have ha : ∀ f, (mu_I M 74 f).1 52 = M.1 52 := fun f => uI_0 _ _ _ _ (by decide)
  rw [ha]
  refine q_for (fun i (g : Int32 → pm_M → Option pm_M) => g (nI i) (mu_I M 74 (qcy (M.1 52) F i))) (N := 2) ?_ ?_ (by omega)
  · intro i hi g
    have hin : pm_in (nI i) 2 := by rw [nI_in_iff (by omega)]; exact hi
    rw [if_neg (by rw [show (2 : Int32) = nI 2 from rfl, nI_le_iff (by omega) (by omega)]; omega), if_pos hin, if_pos hin, q_lt, q_lt, nI_cl i (by omega), sI_u, uI_a, ha, uI_uI, qcy_s, ← nI_succ]
  · intro g
    rw [if_pos (by decide), uI_uI]
theorem cpy_53_75 (M : pm_M) : sR_copies_53_75 (2 : Int32) M = some (mu_I M 75 (qcy (M.1 53) (M.1 75) 2)) := by
  unfold sR_copies_53_75
  generalize hF : M.1 75 = F
  rw [show M = mu_I M 75 (qcy (M.1 53) F 0) by rw [qcy_0, ← hF]; exact (uI_self M 75).symm]
  have ha : ∀ f, (mu_I M 75 f).1 53 = M.1 53 := fun f => uI_0 _ _ _ _ (by decide)
  rw [ha]
  refine q_for (fun i (g : Int32 → pm_M → Option pm_M) => g (nI i) (mu_I M 75 (qcy (M.1 53) F i))) (N := 2) ?_ ?_ (by omega)
  · intro i hi g
    have hin : pm_in (nI i) 2 := by rw [nI_in_iff (by omega)]; exact hi
    rw [if_neg (by rw [show (2 : Int32) = nI 2 from rfl, nI_le_iff (by omega) (by omega)]; omega), if_pos hin, if_pos hin, q_lt, q_lt, nI_cl i (by omega), sI_u, uI_a, ha, uI_uI, qcy_s, ← nI_succ]
  · intro g
    rw [if_pos (by decide), uI_uI]
theorem cpy_54_76 (M : pm_M) : sR_copies_54_76 (50 : Int32) M = some (mu_I M 76 (qcy (M.1 54) (M.1 76) 50)) := by
  unfold sR_copies_54_76
  generalize hF : M.1 76 = F
  rw [show M = mu_I M 76 (qcy (M.1 54) F 0) by rw [qcy_0, ← hF]; exact (uI_self M 76).symm]
  have ha : ∀ f, (mu_I M 76 f).1 54 = M.1 54 := fun f => uI_0 _ _ _ _ (by decide)
  rw [ha]
  refine q_for (fun i (g : Int32 → pm_M → Option pm_M) => g (nI i) (mu_I M 76 (qcy (M.1 54) F i))) (N := 50) ?_ ?_ (by omega)
  · intro i hi g
    have hin : pm_in (nI i) 50 := by rw [nI_in_iff (by omega)]; exact hi
    rw [if_neg (by rw [show (50 : Int32) = nI 50 from rfl, nI_le_iff (by omega) (by omega)]; omega), if_pos hin, if_pos hin, q_lt, q_lt, nI_cl i (by omega), sI_u, uI_a, ha, uI_uI, qcy_s, ← nI_succ]
  · intro g
    rw [if_pos (by decide), uI_uI]
theorem cpy_72_50 (M : pm_M) : sR_copies_72_50 (5 : Int32) M = some (mu_I M 50 (qcy (M.1 72) (M.1 50) 5)) := by
  unfold sR_copies_72_50
  generalize hF : M.1 50 = F
  rw [show M = mu_I M 50 (qcy (M.1 72) F 0) by rw [qcy_0, ← hF]; exact (uI_self M 50).symm]
  have ha : ∀ f, (mu_I M 50 f).1 72 = M.1 72 := fun f => uI_0 _ _ _ _ (by decide)
  rw [ha]
  refine q_for (fun i (g : Int32 → pm_M → Option pm_M) => g (nI i) (mu_I M 50 (qcy (M.1 72) F i))) (N := 5) ?_ ?_ (by omega)
  · intro i hi g
    have hin : pm_in (nI i) 5 := by rw [nI_in_iff (by omega)]; exact hi
    rw [if_neg (by rw [show (5 : Int32) = nI 5 from rfl, nI_le_iff (by omega) (by omega)]; omega), if_pos hin, if_pos hin, q_lt, q_lt, nI_cl i (by omega), sI_u, uI_a, ha, uI_uI, qcy_s, ← nI_succ]
  · intro g
    rw [if_pos (by decide), uI_uI]
theorem cpy_73_51 (M : pm_M) : sR_copies_73_51 (10 : Int32) M = some (mu_I M 51 (qcy (M.1 73) (M.1 51) 10)) := by
  unfold sR_copies_73_51
  generalize hF : M.1 51 = F
  rw [show M = mu_I M 51 (qcy (M.1 73) F 0) by rw [qcy_0, ← hF]; exact (uI_self M 51).symm]
  have ha : ∀ f, (mu_I M 51 f).1 73 = M.1 73 := fun f => uI_0 _ _ _ _ (by decide)
  rw [ha]
  refine q_for (fun i (g : Int32 → pm_M → Option pm_M) => g (nI i) (mu_I M 51 (qcy (M.1 73) F i))) (N := 10) ?_ ?_ (by omega)
  · intro i hi g
    have hin : pm_in (nI i) 10 := by rw [nI_in_iff (by omega)]; exact hi
    rw [if_neg (by rw [show (10 : Int32) = nI 10 from rfl, nI_le_iff (by omega) (by omega)]; omega), if_pos hin, if_pos hin, q_lt, q_lt, nI_cl i (by omega), sI_u, uI_a, ha, uI_uI, qcy_s, ← nI_succ]
  · intro g
    rw [if_pos (by decide), uI_uI]
theorem cpy_74_52 (M : pm_M) : sR_copies_74_52 (2 : Int32) M = some (mu_I M 52 (qcy (M.1 74) (M.1 52) 2)) := by
  unfold sR_copies_74_52
  generalize hF : M.1 52 = F
  rw [show M = mu_I M 52 (qcy (M.1 74) F 0) by rw [qcy_0, ← hF]; exact (uI_self M 52).symm]
  have ha : ∀ f, (mu_I M 52 f).1 74 = M.1 74 := fun f => uI_0 _ _ _ _ (by decide)
  rw [ha]
  refine q_for (fun i (g : Int32 → pm_M → Option pm_M) => g (nI i) (mu_I M 52 (qcy (M.1 74) F i))) (N := 2) ?_ ?_ (by omega)
  · intro i hi g
    have hin : pm_in (nI i) 2 := by rw [nI_in_iff (by omega)]; exact hi
    rw [if_neg (by rw [show (2 : Int32) = nI 2 from rfl, nI_le_iff (by omega) (by omega)]; omega), if_pos hin, if_pos hin, q_lt, q_lt, nI_cl i (by omega), sI_u, uI_a, ha, uI_uI, qcy_s, ← nI_succ]
  · intro g
    rw [if_pos (by decide), uI_uI]
theorem cpy_75_53 (M : pm_M) : sR_copies_75_53 (2 : Int32) M = some (mu_I M 53 (qcy (M.1 75) (M.1 53) 2)) := by
  unfold sR_copies_75_53
  generalize hF : M.1 53 = F
  rw [show M = mu_I M 53 (qcy (M.1 75) F 0) by rw [qcy_0, ← hF]; exact (uI_self M 53).symm]
  have ha : ∀ f, (mu_I M 53 f).1 75 = M.1 75 := fun f => uI_0 _ _ _ _ (by decide)
  rw [ha]
  refine q_for (fun i (g : Int32 → pm_M → Option pm_M) => g (nI i) (mu_I M 53 (qcy (M.1 75) F i))) (N := 2) ?_ ?_ (by omega)
  · intro i hi g
    have hin : pm_in (nI i) 2 := by rw [nI_in_iff (by omega)]; exact hi
    rw [if_neg (by rw [show (2 : Int32) = nI 2 from rfl, nI_le_iff (by omega) (by omega)]; omega), if_pos hin, if_pos hin, q_lt, q_lt, nI_cl i (by omega), sI_u, uI_a, ha, uI_uI, qcy_s, ← nI_succ]
  · intro g
    rw [if_pos (by decide), uI_uI]
theorem cpy_76_54 (M : pm_M) : sR_copies_76_54 (50 : Int32) M = some (mu_I M 54 (qcy (M.1 76) (M.1 54) 50)) := by
  unfold sR_copies_76_54
  generalize hF : M.1 54 = F
  rw [show M = mu_I M 54 (qcy (M.1 76) F 0) by rw [qcy_0, ← hF]; exact (uI_self M 54).symm]
  have ha : ∀ f, (mu_I M 54 f).1 76 = M.1 76 := fun f => uI_0 _ _ _ _ (by decide)
  rw [ha]
  refine q_for (fun i (g : Int32 → pm_M → Option pm_M) => g (nI i) (mu_I M 54 (qcy (M.1 76) F i))) (N := 50) ?_ ?_ (by omega)
  · intro i hi g
    have hin : pm_in (nI i) 50 := by rw [nI_in_iff (by omega)]; exact hi
    rw [if_neg (by rw [show (50 : Int32) = nI 50 from rfl, nI_le_iff (by omega) (by omega)]; omega), if_pos hin, if_pos hin, q_lt, q_lt, nI_cl i (by omega), sI_u, uI_a, ha, uI_uI, qcy_s, ← nI_succ]
  · intro g
    rw [if_pos (by decide), uI_uI]
theorem take_81 (M : pm_M) : ∃ M', sNet_takeFrom_8_1 M = some M' ∧ (∀ b, b ∉ [8, 9, 10, 11, 12, 13] → M'.1 b = M.1 b) ∧ (∀ b, b ≠ 14 → M'.2 b = M.2 b) ∧ M'.1 8 0 = M.1 1 0 ∧ (∀ k, k < 5 → M'.1 9 k = M.1 2 k) ∧ (∀ k, k < 10 → M'.1 10 k = M.1 3 k) ∧ (∀ k, k < 2 → M'.1 11 k = M.1 4 k) ∧ (∀ k, k < 2 → M'.1 12 k = M.1 5 k) ∧ (∀ k, k < 50 → M'.1 13 k = M.1 6 k) ∧ ∀ k, k < 2 → M'.2 14 k = M.2 7 k := by
  unfold sNet_takeFrom_8_1
  simp only [q_lt, cI_u, cL_u, sI_u]
  refine ⟨_, rfl, fun b hb => ?_, fun b hb => ?_, ?_, fun k hk => ?_, fun k hk => ?_, fun k hk => ?_, fun k hk => ?_, fun k hk => ?_, fun k hk => ?_⟩
  · simp only [List.mem_cons, List.not_mem_nil, or_false, not_or] at hb
    show (mu_I _ 13 _).1 b = _
    rw [uI_0 _ _ _ _ (by omega), uI_0 _ _ _ _ (by omega), uI_0 _ _ _ _ (by omega), uI_0 _ _ _ _ (by omega), uI_0 _ _ _ _ (by omega), uI_0 _ _ _ _ (by omega)]
  · rw [uL_0 _ _ _ _ hb]; rfl
  · rw [show ∀ (X : pm_M) (f : Nat → Int64), (mu_L X 14 f).1 = X.1 from fun _ _ => rfl, uI_0 _ _ _ _ (by omega), uI_0 _ _ _ _ (by omega), uI_0 _ _ _ _ (by omega), uI_0 _ _ _ _ (by omega), uI_0 _ _ _ _ (by omega), uI_a, upd_at]
  · rw [show ∀ (X : pm_M) (f : Nat → Int64), (mu_L X 14 f).1 = X.1 from fun _ _ => rfl, uI_0 _ _ _ _ (by omega), uI_0 _ _ _ _ (by omega), uI_0 _ _ _ _ (by omega), uI_0 _ _ _ _ (by omega), uI_a, qcy_at _ _ hk, uI_0 _ _ _ _ (by omega)]
  · rw [show ∀ (X : pm_M) (f : Nat → Int64), (mu_L X 14 f).1 = X.1 from fun _ _ => rfl, uI_0 _ _ _ _ (by omega), uI_0 _ _ _ _ (by omega), uI_0 _ _ _ _ (by omega), uI_a, qcy_at _ _ hk, uI_0 _ _ _ _ (by omega), uI_0 _ _ _ _ (by omega)]
  · rw [show ∀ (X : pm_M) (f : Nat → Int64), (mu_L X 14 f).1 = X.1 from fun _ _ => rfl, uI_0 _ _ _ _ (by omega), uI_0 _ _ _ _ (by omega), uI_a, qcy_at _ _ hk, uI_0 _ _ _ _ (by omega), uI_0 _ _ _ _ (by omega), uI_0 _ _ _ _ (by omega)]
  · rw [show ∀ (X : pm_M) (f : Nat → Int64), (mu_L X 14 f).1 = X.1 from fun _ _ => rfl, uI_0 _ _ _ _ (by omega), uI_a, qcy_at _ _ hk, uI_0 _ _ _ _ (by omega), uI_0 _ _ _ _ (by omega), uI_0 _ _ _ _ (by omega), uI_0 _ _ _ _ (by omega)]
  · rw [show ∀ (X : pm_M) (f : Nat → Int64), (mu_L X 14 f).1 = X.1 from fun _ _ => rfl, uI_a, qcy_at _ _ hk, uI_0 _ _ _ _ (by omega), uI_0 _ _ _ _ (by omega), uI_0 _ _ _ _ (by omega), uI_0 _ _ _ _ (by omega), uI_0 _ _ _ _ (by omega)]
  · rw [uL_a, qcy_at _ _ hk]
    rfl
theorem R_image_s {M : pm_M} : ∃ M', sR_image M = some (M.1 49 1, M') ∧ (∀ b, b ∉ [49, 72, 73, 74, 75, 76] → M'.1 b = M.1 b) ∧ (∀ k, k ≠ 32 → M'.1 49 k = M.1 49 k) ∧ (∀ b, b ≠ 77 → M'.2 b = M.2 b) ∧ M'.1 49 32 = M.1 49 1 ∧ (∀ k, k < 5 → M'.1 72 k = M.1 50 k) ∧ (∀ k, k < 10 → M'.1 73 k = M.1 51 k) ∧ (∀ k, k < 2 → M'.1 74 k = M.1 52 k) ∧ (∀ k, k < 2 → M'.1 75 k = M.1 53 k) ∧ (∀ k, k < 50 → M'.1 76 k = M.1 54 k) ∧ ∀ k, k < 2 → M'.2 77 k = M.2 55 k := by
  unfold sR_image
  simp only [q_lt, q_bv, cpy_50_72, cpy_51_73, cpy_52_74, cpy_53_75, cpy_54_76]
  generalize hN : mu_I (mu_I (mu_I (mu_I (mu_I (pm_sI M 49 32 (M.1 49 1)) 72 (qcy ((pm_sI M 49 32 (M.1 49 1)).1 50) ((pm_sI M 49 32 (M.1 49 1)).1 72) 5)) 73 _) 74 _) 75 _) 76 _ = N
  have hk : ∀ b, b ∉ [49, 72, 73, 74, 75, 76] → N.1 b = M.1 b := fun b hb => by
    simp only [List.mem_cons, List.not_mem_nil, or_false, not_or] at hb
    rw [← hN, uI_0 _ _ _ _ (by omega), uI_0 _ _ _ _ (by omega), uI_0 _ _ _ _ (by omega), uI_0 _ _ _ _ (by omega), uI_0 _ _ _ _ (by omega), sI_1, if_neg (by omega)]
  have h49 : N.1 49 = upd (M.1 49) 32 (M.1 49 1) := by
    rw [← hN, uI_0 _ _ _ _ (by omega), uI_0 _ _ _ _ (by omega), uI_0 _ _ _ _ (by omega), uI_0 _ _ _ _ (by omega), uI_0 _ _ _ _ (by omega), sI_1, if_pos rfl]
  have h72 : ∀ k, k < 5 → N.1 72 k = M.1 50 k := fun k hk => by
    rw [← hN, uI_0 _ _ _ _ (by omega), uI_0 _ _ _ _ (by omega), uI_0 _ _ _ _ (by omega), uI_0 _ _ _ _ (by omega), uI_a, qcy_at _ _ hk, sI_1, if_neg (by decide)]
  have h73 : ∀ k, k < 10 → N.1 73 k = M.1 51 k := fun k hk => by
    rw [← hN, uI_0 _ _ _ _ (by omega), uI_0 _ _ _ _ (by omega), uI_0 _ _ _ _ (by omega), uI_a, qcy_at _ _ hk, uI_0 _ _ _ _ (by omega), sI_1, if_neg (by decide)]
  have h74 : ∀ k, k < 2 → N.1 74 k = M.1 52 k := fun k hk => by
    rw [← hN, uI_0 _ _ _ _ (by omega), uI_0 _ _ _ _ (by omega), uI_a, qcy_at _ _ hk, uI_0 _ _ _ _ (by omega), uI_0 _ _ _ _ (by omega), sI_1, if_neg (by decide)]
  have h75 : ∀ k, k < 2 → N.1 75 k = M.1 53 k := fun k hk => by
    rw [← hN, uI_0 _ _ _ _ (by omega), uI_a, qcy_at _ _ hk, uI_0 _ _ _ _ (by omega), uI_0 _ _ _ _ (by omega), uI_0 _ _ _ _ (by omega), sI_1, if_neg (by decide)]
  have h76 : ∀ k, k < 50 → N.1 76 k = M.1 54 k := fun k hk => by
    rw [← hN, uI_a, qcy_at _ _ hk, uI_0 _ _ _ _ (by omega), uI_0 _ _ _ _ (by omega), uI_0 _ _ _ _ (by omega), uI_0 _ _ _ _ (by omega), sI_1, if_neg (by decide)]
  have h2 : N.2 = M.2 := by rw [← hN]; rfl
  clear hN
  refine ⟨pm_sL (pm_sL N 77 0 (N.2 55 0)) 77 1 ((pm_sL N 77 0 (N.2 55 0)).2 55 1), ?_, hk, fun k h => ?_, fun b hb => ?_, ?_, h72, h73, h74, h75, h76, fun k hk => ?_⟩
  · show some (N.1 49 1, _) = _
    rw [h49]
    rfl
  · show N.1 49 k = _
    rw [h49]
    exact if_neg h
  · rw [sL_2, if_neg hb, sL_2, if_neg hb, h2]
  · show N.1 49 32 = _
    rw [h49, upd_at]
  · rw [sL_2, if_pos rfl, sL_2, if_pos rfl, sL_2, if_neg (by decide), h2]
    unfold vp_updL
    rcases (show k = 0 ∨ k = 1 by omega) with rfl | rfl
    · rw [if_neg (by decide), if_pos rfl]
    · rw [if_pos rfl]
theorem I_image {t : Nat} {M : pm_M} (h : qInv t M) : qBo t sC_image sR_image M := by
  obtain ⟨d, h1, h2, h3, h4, h5, h6, h7⟩ := id h
  obtain ⟨hd, hC, hR, hT, hSt, hF⟩ := id h1
  obtain ⟨M1, e1, c1, c2, c3, c4, c5, c6, c7, c8, c9⟩ := take_81 M
  have o1 : ∀ b, b ≠ 0 → (pm_sI M1 0 2 1).1 b = M1.1 b := fun b hb => by rw [sI_1, if_neg hb]
  obtain ⟨M2, e2, r1, r2, r3, r4, r5, r6, r7, r8, r9, r10⟩ := R_image_s (M := pm_sI M1 0 2 1)
  have k1 : ∀ b, b ∉ [0, 8, 9, 10, 11, 12, 13, 49, 72, 73, 74, 75, 76] → M2.1 b = M.1 b := fun b hb => by
    simp only [List.mem_cons, List.not_mem_nil, or_false, not_or] at hb
    rw [r1 b (by simp only [List.mem_cons, List.not_mem_nil, or_false, not_or]; omega), o1 b (by omega), c1 b (by simp only [List.mem_cons, List.not_mem_nil, or_false, not_or]; omega)]
  have k49 : ∀ k, k ≠ 32 → M2.1 49 k = M.1 49 k := fun k hk => by rw [r2 k hk, o1 49 (by decide), c1 49 (by decide)]
  have k2 : ∀ b, b ≠ 14 → b ≠ 77 → M2.2 b = M.2 b := fun b hb hb2 => by rw [r3 b hb2]; exact c2 b hb
  have n1 : ∀ b, b ∈ [8, 9, 10, 11, 12, 13] → M2.1 b = M1.1 b := fun b hb => by rw [r1 b (by revert b; decide), o1 b (by revert b; decide)]
  have n2 : ∀ b, b ∈ [49, 50, 51, 52, 53, 54] → (pm_sI M1 0 2 1).1 b = M.1 b := fun b hb => by rw [o1 b (by revert b; decide), c1 b (by revert b; decide)]
  refine ⟨nI (qS d), pm_sI M1 0 2 1, M2, ?_, ?_, d, ?_, qLk_k h2 (by rw [k1 23 (by decide)]) (k1 29 (by decide)), qPy_k h3 (k2 7 (by decide) (by decide)) (k2 55 (by decide) (by decide)), Or.inr ⟨?_, ⟨d, hd, ⟨?_, fun k hk => ?_, fun k hk => ?_, fun k hk => ?_, fun k hk => ?_, fun k hk => ?_⟩, ⟨?_, fun k hk => ?_, fun k hk => ?_, fun k hk => ?_, fun k hk => ?_, fun k hk => ?_⟩⟩, fun c hc => ?_⟩, qTr_k h5 (fun k hk => k49 k (by revert k; decide)) (fun b hb => k1 b (by revert b; decide)), qTp_k h6 (k49 9 (by decide)) (k1 37 (by decide)) (k1 38 (by decide)) (k1 56 (by decide)), qSh_k h7 (fun b hb => k1 b (by revert b; decide)) (fun b hb => k2 b (by revert b; decide) (by revert b; decide))⟩
  · unfold sC_image
    rw [e1, q_bv, q_lt, o1 1 (by decide), c1 1 (by decide), hC.1]
  · rw [e2, n2 49 (by decide), hR.1]
  · exact ⟨hd, ⟨by rw [k1 1 (by decide)]; exact hC.1, by rw [k1 2 (by decide)]; exact hC.2.1, by rw [k1 3 (by decide)]; exact hC.2.2.1, by rw [k1 4 (by decide)]; exact hC.2.2.2.1, by rw [k1 5 (by decide)]; exact hC.2.2.2.2.1, by rw [k1 6 (by decide)]; exact hC.2.2.2.2.2⟩, qR_of hR (k49 1 (by decide)) (fun b b1 b2 => k1 b (by simp only [List.mem_cons, List.not_mem_nil, or_false, not_or]; omega)), qTo_of hT (fun b b1 b2 => k1 b (by simp only [List.mem_cons, List.not_mem_nil, or_false, not_or]; omega)) (fun b b1 b2 => k2 b (by omega) (by omega)), qSt_of hSt (fun k hk => by rw [k1 23 (by decide)]) (k1 24 (by decide)) (k2 25 (by decide) (by decide)), fun k hk => by rw [k2 61 (by decide) (by decide)]; exact hF k hk⟩
  · rw [r1 0 (by decide), sI_1, if_pos rfl, upd_at]
  · rw [n1 8 (by decide), c3, hC.1]
  · rw [n1 9 (by decide), c4 k hk, hC.2.1]
  · rw [n1 10 (by decide), c5 k hk, hC.2.2.1]
  · rw [n1 11 (by decide), c6 k hk, hC.2.2.2.1]
  · rw [n1 12 (by decide), c7 k hk, hC.2.2.2.2.1]
  · rw [n1 13 (by decide), c8 k hk, hC.2.2.2.2.2]
  · rw [r4, n2 49 (by decide), hR.1]
  · rw [r5 k hk, n2 50 (by decide), hR.2.1]
  · rw [r6 k hk, n2 51 (by decide), hR.2.2.1]
  · rw [r7 k hk, n2 52 (by decide), hR.2.2.2.1]
  · rw [r8 k hk, n2 53 (by decide), hR.2.2.2.2.1]
  · rw [r9 k hk, n2 54 (by decide), hR.2.2.2.2.2]
  · rw [r3 14 (by decide), r10 c hc]
    show M1.2 14 c = M1.2 55 c
    rw [c9 c hc, c2 55 (by decide), h3 c hc]
