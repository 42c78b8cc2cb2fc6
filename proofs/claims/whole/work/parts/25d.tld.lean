/-! what follows a telling, on both sides -/
def qfi (F : Nat → Int32) (v : Int32) (n : Nat) : Nat → Int32 := fun k => if k < n then v else F k
theorem qfi_0 (F : Nat → Int32) (v : Int32) : qfi F v 0 = F := by
  funext k
  unfold qfi
  rw [if_neg (by omega)]
theorem qfi_set (F : Nat → Int32) (v : Int32) (n : Nat) : upd (qfi F v n) n v = qfi F v (n + 1) := by
  funext k
  unfold upd qfi
  by_cases h : k = n
  · rw [if_pos h, if_pos (by omega)]
  · rw [if_neg h]
    by_cases h2 : k < n
    · rw [if_pos h2, if_pos (by omega)]
    · rw [if_neg h2, if_neg (by omega)]
theorem qfi_at (F : Nat → Int32) (v : Int32) {n k : Nat} (h : k < n) : qfi F v n k = v := if_pos h
theorem fillI_32 (v : Int32) (M : pm_M) : sJArr_fillI_32 v M = some (mu_I M 32 (qfi (M.1 32) v 5)) := by
  unfold sJArr_fillI_32
  generalize hF : M.1 32 = F
  rw [show M = mu_I M 32 (qfi F v 0) by rw [qfi_0, ← hF]; exact (uI_self M 32).symm]
  refine q_for (fun i (g : Int32 → pm_M → Option pm_M) => g (nI i) (mu_I M 32 (qfi F v i))) (N := 5) ?_ ?_ (by omega)
  · intro i hi g
    rw [if_neg (by rw [q5, nI_le_iff (by omega) (by omega)]; omega), if_pos (by rw [nI_in_iff (by omega)]; exact hi), q_lt, q_lt, nI_clamp (by omega), sI_u, uI_a, uI_uI, qfi_set, ← nI_succ]
  · intro g
    rw [if_pos (by decide), uI_uI]
theorem fillI_35 (v : Int32) (M : pm_M) : sJArr_fillI_35 v M = some (mu_I M 35 (qfi (M.1 35) v 10)) := by
  unfold sJArr_fillI_35
  generalize hF : M.1 35 = F
  rw [show M = mu_I M 35 (qfi F v 0) by rw [qfi_0, ← hF]; exact (uI_self M 35).symm]
  refine q_for (fun i (g : Int32 → pm_M → Option pm_M) => g (nI i) (mu_I M 35 (qfi F v i))) (N := 10) ?_ ?_ (by omega)
  · intro i hi g
    rw [if_neg (by rw [q10, nI_le_iff (by omega) (by omega)]; omega), if_pos (by rw [nI_in_iff (by omega)]; exact hi), q_lt, q_lt, nI_clamp (by omega), sI_u, uI_a, uI_uI, qfi_set, ← nI_succ]
  · intro g
    rw [if_pos (by decide), uI_uI]
/-- the class's truth is forgotten -/
def qfg (M M' : pm_M) : Prop := (∀ b, b ≠ 30 → b ≠ 32 → b ≠ 35 → M'.1 b = M.1 b) ∧ M'.2 = M.2 ∧ M'.1 30 0 = 0 ∧ M'.1 30 1 = 0 ∧ M'.1 30 3 = 0 ∧ (∀ k, k ≠ 0 → k ≠ 1 → k ≠ 3 → M'.1 30 k = M.1 30 k) ∧ (∀ k, k < 5 → M'.1 32 k = 0) ∧ ∀ k, k < 10 → M'.1 35 k = 0
theorem Truth_forget (M : pm_M) : ∃ M', sTruth_forget M = some M' ∧ qfg M M' := by
  unfold sTruth_forget
  rw [q_lt, q_lt, q_lt, fillI_32, q_bv, fillI_35, q_bv]
  refine ⟨_, rfl, ?_, rfl, rfl, rfl, rfl, ?_, ?_, ?_⟩
  · intro b h1 h2 h3
    rw [uI_0 _ _ _ _ h3, uI_0 _ _ _ _ h2, sI_1, if_neg h1, sI_1, if_neg h1, sI_1, if_neg h1]
  · intro k h1 h2 h3
    rw [uI_0 _ _ _ _ (by decide), uI_0 _ _ _ _ (by decide), sI_1, if_pos rfl, sI_1, if_pos rfl, sI_1, if_pos rfl]
    unfold upd
    rw [if_neg h3, if_neg h2, if_neg h1]
  · intro k hk
    rw [uI_0 _ _ _ _ (by decide), uI_a, qfi_at _ _ hk]
  · intro k hk
    rw [uI_a, qfi_at _ _ hk]
/-- behind a telling, the class's side -/
def qNT (d : qD) (M M' : pm_M) : Prop := (∀ b, b ∉ [16, 17, 18, 21, 23, 24, 30, 32, 35] → M'.1 b = M.1 b) ∧ (∀ b, b ∉ [19, 20, 22, 25] → M'.2 b = M.2 b) ∧ qTo M' d ∧ qSt M' d (qdd d) ∧ M'.1 23 3 = 0 ∧ M'.1 30 0 = 0 ∧ M'.1 30 1 = 0 ∧ M'.1 30 3 = 0 ∧ (∀ k, k ≠ 0 → k ≠ 1 → k ≠ 3 → M'.1 30 k = M.1 30 k) ∧ (∀ k, k < 5 → M'.1 32 k = 0) ∧ ∀ k, k < 10 → M'.1 35 k = 0
theorem C_netTold {d : qD} {M : pm_M} (hd : qOK d) (h : qC M d) : ∃ M', sC_netTold M = some M' ∧ qNT d M M' := by
  unfold sC_netTold
  obtain ⟨M1, e1, f1, f2, f3, f4, f5, f6, f7, f8⟩ := Truth_forget M
  have hC1 : qC M1 d := qC_of h (fun b hb => f1 b (by omega) (by omega) (by omega))
  obtain ⟨M2, e2, g1, g2, g3, g4, g5, g6, g7⟩ := Tours_reckon hd hC1 (c := 0) (by omega)
  have hC2 : qC M2 d := qC_of hC1 (fun b hb => g1 b (by omega) (by omega) (by omega) (by omega))
  obtain ⟨M3, e3, k1, k2, k3, k4, k5, k6, k7⟩ := Tours_reckon hd hC2 (c := 1) (by omega)
  have hC3 : qC M3 d := qC_of hC2 (fun b hb => k1 b (by omega) (by omega) (by omega) (by omega))
  have hS := hd.1
  have hT : qTo M3 d := by
    intro c hc
    rw [k3, k4, k5, k6, k7, g3, g4, g5, g6, g7]
    match c, hc with
    | 0, _ =>
      refine ⟨rfl, rfl, rfl, fun s hs => ?_⟩
      rw [qro_ne _ 1 (qvi d 1) (by omega), qro_ne _ 1 (qde d 1) (by omega), qro_at _ _ _ hs, qro_at _ _ _ hs]
      exact ⟨rfl, rfl⟩
    | 1, _ =>
      refine ⟨rfl, rfl, rfl, fun s hs => ?_⟩
      rw [qro_at _ _ _ hs, qro_at _ _ _ hs]
      exact ⟨rfl, rfl⟩
    | c + 2, h => omega
  obtain ⟨M4, e4, l1, l2, l3, l4⟩ := States_load hd hC3 hT
  have hT4 : qTo M4 d := qTo_of hT (fun b _ _ => l1 b (by omega) (by omega)) (fun b _ _ => l2 b (by omega))
  have h30 : ∀ b, b = 30 ∨ b = 32 ∨ b = 35 → M4.1 b = M1.1 b := fun b hb => by
    rw [l1 b (by omega) (by omega), k1 b (by omega) (by omega) (by omega) (by omega), g1 b (by omega) (by omega) (by omega) (by omega)]
  rw [e1, q_bv, show (0 : Int32) = nI 0 from rfl, e2, q_bv, show (1 : Int32) = nI 1 from rfl, e3, q_bv, e4, q_bv]
  refine ⟨M4, rfl, ?_, ?_, hT4, l4, l3, ?_, ?_, ?_, ?_, ?_, ?_⟩
  · intro b hb
    simp only [List.mem_cons, List.not_mem_nil, or_false, not_or] at hb
    rw [l1 b (by omega) (by omega), k1 b (by omega) (by omega) (by omega) (by omega), g1 b (by omega) (by omega) (by omega) (by omega), f1 b (by omega) (by omega) (by omega)]
  · intro b hb
    simp only [List.mem_cons, List.not_mem_nil, or_false, not_or] at hb
    rw [l2 b (by omega), k2 b (by omega) (by omega) (by omega), g2 b (by omega) (by omega) (by omega), f2]
  · rw [h30 30 (by omega)]; exact f3
  · rw [h30 30 (by omega)]; exact f4
  · rw [h30 30 (by omega)]; exact f5
  · intro k a b c
    rw [h30 30 (by omega)]
    exact f6 k a b c
  · intro k hk
    rw [h30 32 (by omega)]
    exact f7 k hk
  · intro k hk
    rw [h30 35 (by omega)]
    exact f8 k hk
/-- behind a telling, the reference's side -/
def qRT (M M' : pm_M) : Prop := (∀ b, b ∉ [49, 66, 69] → M'.1 b = M.1 b) ∧ M'.2 = M.2 ∧ M'.1 49 22 = 0 ∧ M'.1 49 23 = 0 ∧ (∀ k, k ≠ 22 → k ≠ 23 → M'.1 49 k = M.1 49 k) ∧ (∀ k, k < 5 → M'.1 66 k = 0) ∧ ∀ k, k < 10 → M'.1 69 k = 0
theorem R_ends (M : pm_M) : ∃ M', sR_ends M = some M' ∧ qRT M M' := by
  unfold sR_ends
  rw [q_lt, q_lt]
  have a1 : ∀ b, b ≠ 49 → (pm_sI (pm_sI M 49 22 0) 49 23 0).1 b = M.1 b := fun b hb => by rw [sI_1, if_neg hb, sI_1, if_neg hb]
  have a2 : ∀ k, k ≠ 22 → k ≠ 23 → (pm_sI (pm_sI M 49 22 0) 49 23 0).1 49 k = M.1 49 k := fun k h1 h2 => by
    rw [sI_1, if_pos rfl, sI_1, if_pos rfl]
    unfold upd
    rw [if_neg h2, if_neg h1]
  have a3 : (pm_sI (pm_sI M 49 22 0) 49 23 0).1 49 22 = 0 := rfl
  have a4 : (pm_sI (pm_sI M 49 22 0) 49 23 0).1 49 23 = 0 := rfl
  have a5 : (pm_sI (pm_sI M 49 22 0) 49 23 0).2 = M.2 := rfl
  generalize pm_sI (pm_sI M 49 22 0) 49 23 0 = K at a1 a2 a3 a4 a5
  refine q_fz (fun o => ∃ M', o = some M' ∧ qRT M M') (fun i N (g : Int32 → pm_M → Option pm_M) => g (nI i) N) (fun i N => (∀ b, b ≠ 66 → b ≠ 69 → N.1 b = K.1 b) ∧ N.2 = M.2 ∧ (∀ k, k < i → N.1 66 k = 0) ∧ ∀ k, k < i → N.1 69 k = 0 ∧ N.1 69 (5 + k) = 0) 5 ?_ ?_ (by omega) ⟨fun b _ _ => rfl, a5, fun k hk => absurd hk (Nat.not_lt_zero k), fun k hk => absurd hk (Nat.not_lt_zero k)⟩
  · rintro i N hi ⟨n1, n2, n3, n4⟩ g
    have hin5 : pm_in (nI i) 5 := by rw [nI_in_iff (by omega)]; omega
    have hin10 : pm_in (nI i) 10 := by rw [nI_in_iff (by omega)]; omega
    have hin10' : pm_in (nI (5 + i)) 10 := by rw [nI_in_iff (by omega)]; omega
    have hck : (nI i).toNatClampNeg = i := nI_clamp (by omega)
    have e55 : (5 : Int32) + nI i = nI (5 + i) := by rw [q5, qI_add]
    have hck' : (nI (5 + i)).toNatClampNeg = 5 + i := nI_clamp (by omega)
    simp only [e55, eq_true hin5, eq_true hin10, eq_true hin10', hck, hck', if_true, q_lt]
    rw [if_neg (by rw [q5, nI_le_iff (by omega) (by omega)]; omega), ← nI_succ, sI_u, sI_u, sI_u]
    refine ⟨_, ?_, rfl⟩
    refine ⟨?_, n2, ?_, ?_⟩
    · intro b h1 h2
      rw [uI_0 _ _ _ _ h2, uI_0 _ _ _ _ h2, uI_0 _ _ _ _ h1, n1 b h1 h2]
    · intro k hk
      rw [uI_0 _ _ _ _ (by decide), uI_0 _ _ _ _ (by decide), uI_a]
      unfold upd
      by_cases q : k = i
      · rw [if_pos q]
      · rw [if_neg q]; exact n3 k (by omega)
    · intro k hk
      rw [uI_a, uI_a, uI_0 _ _ _ _ (by decide)]
      unfold upd
      by_cases q : k = i
      · rw [if_neg (by omega), if_pos q, if_pos (by omega)]; exact ⟨rfl, rfl⟩
      · rw [if_neg (by omega), if_neg q, if_neg (by omega), if_neg (by omega)]; exact n4 k (by omega)
  · rintro N ⟨n1, n2, n3, n4⟩ g
    rw [if_pos (by decide)]
    refine ⟨N, rfl, ?_, n2, by rw [n1 49 (by decide) (by decide), a3], by rw [n1 49 (by decide) (by decide), a4], fun k h1 h2 => by rw [n1 49 (by decide) (by decide), a2 k h1 h2], n3, ?_⟩
    · intro b hb
      simp only [List.mem_cons, List.not_mem_nil, or_false, not_or] at hb
      rw [n1 b hb.2.1 hb.2.2, a1 b hb.1]
    · intro k hk
      by_cases q : k < 5
      · exact (n4 k q).1
      · have := (n4 (k - 5) (by omega)).2
        rwa [show 5 + (k - 5) = k by omega] at this
