/-! THE LIKELIEST: the class's walk as a whole -/
theorem cI_1 (M : pm_M) (a b sp dp n x : Nat) : (pm_cI M a b sp dp n).1 x = if x = b then va_cpy (M.1 a) (M.1 b) sp dp n else M.1 x := by
  funext j
  show (if x = b then va_cpy (M.1 a) (M.1 b) sp dp n j else M.1 x j) = _
  by_cases h : x = b
  · rw [if_pos h, if_pos h]
  · rw [if_neg h, if_neg h]
theorem qSimC_leaf {d : qD} (hd : qOK d) (hsn : qsnd d) {M0 : pm_M} (hSt : qSt M0 d (qdd d)) (f : Nat) : qSimC d M0 1 (qS d) (qlf d) (f + 1) := by
  have hS := hd.1
  intro M σ b hM hv
  have h23 : M.1 23 = M0.1 23 := hM.1 23 (by decide) (by decide)
  have hw := qww_le hd hsn (c := 1) (by omega) (Nat.le_refl _) hv
  have hwe : qww d σ 1 (qS d) = qwg d σ := by unfold qww qwg; rw [if_neg (by decide)]
  have h2S : (2 : Int32) * nI (qS d) = nI (2 * qS d) := by rw [q2, nI_mul]
  obtain ⟨k1, k2, k3, k4, k5, k6⟩ := id hM
  have e1 : qP d 1 - qsu σ 1 (qS d) = 0 := by have := hv.2.2.1 rfl; omega
  rw [hwe] at hw ⊢
  show ∃ M', (if nI (1 * qS d + qS d) < (2 : Int32) * (M.1 23 0) then _ else (if ¬ nI (if 1 = 0 then _ else 0) = 0 then some M else (if ¬ nI (if 1 = 0 then _ else _) = 0 then some M else (pm_bv (sStates_takeIfGreater (nL (qwg d σ)) M) fun M41 => some M41)))) = some M' ∧ _
  rw [if_neg (show ¬ (1 : Nat) = 0 by decide), if_neg (show ¬ (1 : Nat) = 0 by decide), e1, h23, hSt.1, h2S, if_neg (by rw [nI_lt_iff (by omega) (by omega)]; omega), if_neg (by decide), if_neg (by decide)]
  unfold sStates_takeIfGreater
  rw [k4]
  unfold qlf
  by_cases q : b.1 < qwg d σ
  · rw [if_pos (show 0 < lg_cmp (nL (qwg d σ)) (nL b.1) by rw [cmp_gt, nL_lt_iff (by omega) (by omega)]; exact q), if_pos q, q_lt, q_lt, q_bv]
    refine ⟨_, rfl, fun x hx hx2 => ?_, fun x hx => ?_, fun c' i hi hci => ?_, ?_, by show qwg d σ < 2 ^ 62; omega, fun c' i hc' hi => ?_⟩
    · rw [cI_1, if_neg hx2]
      exact k1 x hx hx2
    · show (pm_sL M 23 4 _).2 x = _
      rw [sL_2, if_neg hx]
      exact k2 x hx
    · exact k3 c' i hi hci
    · show (pm_sL M 23 4 _).2 23 4 = _
      exact sL_at _ _ _ _
    · show va_cpy (M.1 28) (M.1 29) 0 0 10 (5 * c' + i) = nI (σ (5 * c' + i))
      unfold va_cpy
      rw [if_pos (by omega)]
      show M.1 28 (0 + (5 * c' + i - 0)) = _
      rw [show 0 + (5 * c' + i - 0) = 5 * c' + i by omega]
      exact k3 c' i hi (by omega)
  · rw [if_neg (show ¬ 0 < lg_cmp (nL (qwg d σ)) (nL b.1) by rw [cmp_gt, nL_lt_iff (by omega) (by omega)]; exact q), if_neg q, q_bv]
    exact ⟨M, rfl, hM⟩
theorem qly_stp (d : qD) (c : Nat) (leaf : (Nat → Nat) → qB → qB) {k s : Nat} (h : s + (k + 1) = qS d) : qly d c leaf (k + 1) = qstp d c s (qly d c leaf k) := by
  funext σ b
  have e : qS d - (k + 1) = s := by omega
  unfold qstp
  show qdw (fun n b => if n = 0 ∨ 0 < qdd d c (qS d - (k + 1)) then qly d c leaf k (fupd σ (5 * c + (qS d - (k + 1))) n) b else b) (if k = 0 then qP d c - qsu σ c (qS d - (k + 1)) else 0) (qP d c - qsu σ c (qS d - (k + 1)) + 1 - (if k = 0 then qP d c - qsu σ c (qS d - (k + 1)) else 0)) b = _
  rw [e]
  by_cases q : k = 0
  · rw [if_pos q, if_pos (by omega)]
  · rw [if_neg q, if_neg (by omega)]
theorem qSimC_ly {d : qD} (hd : qOK d) (hsn : qsnd d) {M0 : pm_M} (hSt : qSt M0 d (qdd d)) {c f : Nat} (hc : c < 2) {leaf : (Nat → Nat) → qB → qB} (h0 : qSimC d M0 c (qS d) leaf f) : ∀ k s, s + k = qS d → qSimC d M0 c s (qly d c leaf k) (f + k)
  | 0, s, h => by
    rw [show s = qS d by omega]
    exact h0
  | k + 1, s, h => by
    rw [qly_stp d c leaf h]
    exact qSimC_step hd hsn hSt hc (by omega) (qSimC_ly hd hsn hSt hc h0 k (s + 1) (by omega))
theorem qS_0 {d : qD} (hd : qOK d) (hsn : qsnd d) (h : qS d = 0) {c : Nat} (hc : c < 2) : qP d c = 0 := by
  apply Classical.byContradiction
  intro q
  obtain ⟨s, hs, -⟩ := qdd_pos hd hsn hc q
  omega
theorem qSimC_sw {d : qD} (hd : qOK d) (hsn : qsnd d) {M0 : pm_M} {f : Nat} {G : (Nat → Nat) → qB → qB} (h : qSimC d M0 1 0 G f) : qSimC d M0 0 (qS d) G f := by
  intro M σ b hM hv
  obtain ⟨k1, k2, k3, k4, k5, k6⟩ := hM
  obtain ⟨v1, v2, v3, -⟩ := hv
  have e0 := v3 rfl
  have e9 : 0 = qS d → qsu σ 1 0 = qP d 1 := fun q => (qS_0 hd hsn q.symm (by omega)).symm
  obtain ⟨M', e1, m1, m2, m3, m4, m5, m6⟩ := h M σ b ⟨k1, k2, fun c' i hi hci => k3 c' i hi (by omega), k4, k5, k6⟩ ⟨fun i hi => absurd hi (Nat.not_lt_zero i), Nat.zero_le _, e9, fun _ => ⟨fun i hi => by have := v1 i hi; rwa [Nat.mul_zero, Nat.zero_add] at this, e0⟩⟩
  refine ⟨M', ?_, m1, m2, fun c' i hi hci => m3 c' i hi (by omega), m4, m5, m6⟩
  rw [← e1]
  have ew : qww d σ 0 (qS d) = qww d σ 1 0 := by
    unfold qww
    rw [if_pos rfl, if_neg (by decide)]
    exact (Nat.mul_one _).symm
  rw [ew, if_pos rfl, if_pos rfl, if_neg (by decide), if_neg (by decide), show qP d 0 - qsu σ 0 (qS d) = 0 by omega, show 0 * qS d + qS d = 1 * qS d + 0 by omega]
  rfl
theorem fillI_29 (v : Int32) (M : pm_M) : sJArr_fillI_29 v M = some (mu_I M 29 (qfi (M.1 29) v 10)) := by
  unfold sJArr_fillI_29
  generalize hF : M.1 29 = F
  rw [show M = mu_I M 29 (qfi F v 0) by rw [qfi_0, ← hF]; exact (uI_self M 29).symm]
  refine q_for (fun i (g : Int32 → pm_M → Option pm_M) => g (nI i) (mu_I M 29 (qfi F v i))) (N := 10) ?_ ?_ (by omega)
  · intro i hi g
    rw [if_neg (by rw [q10, nI_le_iff (by omega) (by omega)]; omega), if_pos (by rw [nI_in_iff (by omega)]; exact hi), q_lt, q_lt, nI_clamp (by omega), sI_u, uI_a, uI_uI, qfi_set, ← nI_succ]
  · intro g
    rw [if_pos (by decide), uI_uI]
/-- the likeliest, of the class -/
theorem States_try {d : qD} (hd : qOK d) (hsn : qsnd d) {M : pm_M} (hSt : qSt M d (qdd d)) (h24 : M.2 23 4 = 0) (h29 : ∀ k, k < 10 → M.1 29 k = 0) : ∃ M', sStates_tryPlace 12 (0 : Int32) (M.1 23 1) (M.1 23 2) (1 : Int64) M = some M' ∧ (∀ x, x ≠ 28 → x ≠ 29 → M'.1 x = M.1 x) ∧ (∀ x, x ≠ 23 → M'.2 x = M.2 x) ∧ ∀ c i, c < 2 → i < qS d → M'.1 29 (5 * c + i) = nI ((qbe d).2 (5 * c + i)) := by
  have hS := hd.1
  have s1 := qSimC_ly hd hsn hSt (c := 1) (by omega) (qSimC_leaf hd hsn hSt (11 - 2 * qS d)) (qS d) 0 (by omega)
  have s0 := qSimC_ly hd hsn hSt (c := 0) (by omega) (qSimC_sw hd hsn s1) (qS d) 0 (by omega)
  obtain ⟨M', e, k1, k2, -, -, -, k6⟩ := s0 M (fun _ => 0) (0, fun _ => 0) ⟨fun _ _ _ => rfl, fun _ _ => rfl, fun c' i _ h => by omega, h24, by show 0 < 2 ^ 62; omega, fun c' i hc' hi => h29 _ (by omega)⟩ ⟨fun i hi => absurd hi (Nat.not_lt_zero i), Nat.zero_le _, fun q => (qS_0 hd hsn q.symm (by omega)).symm, fun q => absurd q (by decide)⟩
  refine ⟨M', ?_, k1, k2, k6⟩
  rw [← e, hSt.2.1, hSt.2.2.1, if_pos rfl, if_pos rfl, show 11 - 2 * qS d + 1 + qS d + qS d = 12 by omega, show 0 * qS d + 0 = 0 by omega]
  rfl
theorem States_likeliestAt {d : qD} (hd : qOK d) (hsn : qsnd d) {M : pm_M} (hSt : qSt M d (qdd d)) (hk : M.1 23 3 = 0 ∨ (M.1 23 3 = 1 ∧ ∀ c i, c < 2 → i < qS d → M.1 29 (5 * c + i) = nI ((qbe d).2 (5 * c + i)))) {c s : Nat} (hc : c < 2) (hs : s < qS d) : ∃ M', sStates_likeliestAt (nI c) (nI s) M = some (nI ((qbe d).2 (5 * c + s)), M') ∧ (∀ x, x ≠ 23 → x ≠ 28 → x ≠ 29 → M'.1 x = M.1 x) ∧ (∀ x, x ≠ 23 → M'.2 x = M.2 x) ∧ (∀ k, k ≠ 3 → M'.1 23 k = M.1 23 k) ∧ M'.1 23 3 = 1 ∧ ∀ c i, c < 2 → i < qS d → M'.1 29 (5 * c + i) = nI ((qbe d).2 (5 * c + i)) := by
  have hS := hd.1
  have hin : pm_in (nI (5 * c + s)) 10 := by rw [nI_in_iff (by omega)]; omega
  have hck : (nI (5 * c + s)).toNatClampNeg = 5 * c + s := nI_clamp (by omega)
  unfold sStates_likeliestAt
  rw [q_jn]
  simp only [qcs', eq_true hin, hck, if_true]
  rcases hk with hk | ⟨hk1, hk2⟩
  · rw [hk, if_neg (fun q => q rfl), q_lt, fillI_29, q_bv]
    have hSt3 : qSt (mu_I (pm_sL M 23 4 0) 29 (qfi ((pm_sL M 23 4 0).1 29) 0 10)) d (qdd d) := qSt_of hSt (fun k _ => rfl) rfl (by rw [uI_2, sL_2, if_neg (by decide)])
    obtain ⟨M', e, k1, k2, k3⟩ := States_try hd hsn hSt3 (by rw [uI_2]; exact sL_at _ _ _ _) (fun k hk => by rw [uI_a, qfi_at _ _ hk])
    rw [e, q_bv, q_lt]
    refine ⟨pm_sI M' 23 3 1, ?_, fun x hx hx2 hx3 => ?_, fun x hx => ?_, fun k hk => ?_, ?_, fun c' i hc' hi => ?_⟩
    · have : (pm_sI M' 23 3 1).1 29 (5 * c + s) = nI ((qbe d).2 (5 * c + s)) := by rw [sI_1, if_neg (by decide)]; exact k3 c s hc hs
      rw [this]
    · rw [sI_1, if_neg hx, k1 x hx2 hx3, uI_0 _ _ _ _ hx3, sL_1]
    · rw [sI_2, k2 x hx, uI_2, sL_2, if_neg hx]
    · rw [sI_1, if_pos rfl]
      unfold upd
      rw [if_neg hk, k1 23 (by decide) (by decide), uI_0 _ _ _ _ (by decide), sL_1]
    · rw [sI_1, if_pos rfl, upd_at]
    · rw [sI_1, if_neg (by decide)]
      exact k3 c' i hc' hi
  · rw [hk1, if_pos (by decide), hk2 c s hc hs]
    exact ⟨M, rfl, fun _ _ _ _ => rfl, fun _ _ => rfl, fun _ _ => rfl, hk1, hk2⟩
