/-! WHAT HOLDS BETWEEN CALLS -/
def qLk (M : pm_M) (d : qD) : Prop := M.1 23 3 = 0 ∨ (M.1 23 3 = 1 ∧ ∀ c i, c < 2 → i < qS d → M.1 29 (5 * c + i) = nI ((qbe d).2 (5 * c + i)))
def qPy (M : pm_M) : Prop := ∀ c, c < 2 → M.2 7 c = M.2 55 c
def qCk (M : pm_M) (e : qD) : Prop := M.1 8 0 = nI (qS e) ∧ (∀ k, k < 5 → M.1 9 k = nI (qK e k)) ∧ (∀ k, k < 10 → M.1 10 k = nI (qT e k)) ∧ (∀ c, c < 2 → M.1 11 c = hI (qH e c)) ∧ (∀ c, c < 2 → M.1 12 c = nI (qP e c)) ∧ ∀ k, k < 50 → M.1 13 k = nI (qW e k)
def qRk (M : pm_M) (e : qD) : Prop := M.1 49 32 = nI (qS e) ∧ (∀ k, k < 5 → M.1 72 k = nI (qK e k)) ∧ (∀ k, k < 10 → M.1 73 k = nI (qT e k)) ∧ (∀ c, c < 2 → M.1 74 c = hI (qH e c)) ∧ (∀ c, c < 2 → M.1 75 c = nI (qP e c)) ∧ ∀ k, k < 50 → M.1 76 k = nI (qW e k)
def qKp (M : pm_M) : Prop := (M.1 0 2 = 0 ∧ M.1 49 32 = -1) ∨ (M.1 0 2 = 1 ∧ (∃ e, qOK e ∧ qCk M e ∧ qRk M e) ∧ ∀ c, c < 2 → M.2 14 c = M.2 77 c)
def qTr (t : Nat) (M : pm_M) (d : qD) : Prop := M.1 30 4 = M.1 49 28 ∧ ((M.1 30 0 = 0 ∧ M.1 30 1 = 0 ∧ M.1 30 3 = 0 ∧ M.1 49 22 = 0 ∧ M.1 49 23 = 0 ∧ (∀ k, k < 5 → M.1 32 k = 0 ∧ M.1 66 k = 0) ∧ ∀ k, k < 10 → M.1 35 k = 0 ∧ M.1 69 k = 0) ∨ (M.1 30 0 = 1 ∧ M.1 49 22 = 1 ∧ qsnd d ∧ M.1 30 1 = nI (qP d 0 + qP d 1) ∧ M.1 30 3 = M.1 49 23 ∧ ∃ X, xC0 (qP d 0) M X ∧ xM0 M X ∧ xV d X ∧ xL X = [] ∧ ∀ k, k < 10 → ∃ n, n ≤ 480 * t ∧ xP X k = nI n))
def qTp (M : pm_M) : Prop := ∃ (n : Nat) (b : Nat → Nat), n ≤ 60 ∧ M.1 37 0 = nI n ∧ M.1 49 9 = nI n ∧ ∀ k, k < n → b k < 256 ∧ M.1 38 k = nI (b k) ∧ M.1 56 k = nI (b k)
def qSj (M : pm_M) (j : Nat) : Prop := ∃ n, n ≤ 40 ∧ M.1 (40 + 2 * j) 1 = nI n ∧ M.1 79 j = nI n ∧ M.1 (40 + 2 * j) 0 = M.1 78 j ∧ (M.1 78 j = -1 ∨ M.1 78 j = 0 ∨ M.1 78 j = 1 ∨ M.1 78 j = 2) ∧ ∀ k, k < 40 → M.2 (41 + 2 * j) k = M.2 80 (40 * j + k)
def qSh (M : pm_M) : Prop := ∀ j, j < 4 → qSj M j
def qInv (t : Nat) (M : pm_M) : Prop := ∃ d, qNet M d ∧ qLk M d ∧ qPy M ∧ qKp M ∧ qTr t M d ∧ qTp M ∧ qSh M
theorem qLk_k {M M' : pm_M} {d : qD} (h : qLk M d) (e0 : M'.1 23 3 = M.1 23 3) (e1 : M'.1 29 = M.1 29) : qLk M' d := by
  unfold qLk
  rw [e0, e1]
  exact h
theorem qPy_k {M M' : pm_M} (h : qPy M) (e1 : M'.2 7 = M.2 7) (e2 : M'.2 55 = M.2 55) : qPy M' := by
  unfold qPy
  rw [e1, e2]
  exact h
theorem qCk_k {M M' : pm_M} {e : qD} (h : qCk M e) (e1 : ∀ b, b ∈ [8, 9, 10, 11, 12, 13] → M'.1 b = M.1 b) : qCk M' e := by
  unfold qCk
  rw [e1 8 (by decide), e1 9 (by decide), e1 10 (by decide), e1 11 (by decide), e1 12 (by decide), e1 13 (by decide)]
  exact h
theorem qRk_k {M M' : pm_M} {e : qD} (h : qRk M e) (e0 : M'.1 49 32 = M.1 49 32) (e1 : ∀ b, b ∈ [72, 73, 74, 75, 76] → M'.1 b = M.1 b) : qRk M' e := by
  unfold qRk
  rw [e0, e1 72 (by decide), e1 73 (by decide), e1 74 (by decide), e1 75 (by decide), e1 76 (by decide)]
  exact h
theorem qKp_k {M M' : pm_M} (h : qKp M) (e0 : M'.1 49 32 = M.1 49 32) (e1 : ∀ b, b ∈ [0, 8, 9, 10, 11, 12, 13, 72, 73, 74, 75, 76] → M'.1 b = M.1 b) (e2 : M'.2 14 = M.2 14) (e3 : M'.2 77 = M.2 77) : qKp M' := by
  unfold qKp
  rw [e0, e1 0 (by decide), e2, e3]
  rcases h with h | ⟨h1, ⟨e, h2, h3, h4⟩, h5⟩
  · exact Or.inl h
  · exact Or.inr ⟨h1, ⟨e, h2, qCk_k h3 (fun b hb => e1 b (by revert b; decide)), qRk_k h4 e0 (fun b hb => e1 b (by revert b; decide))⟩, h5⟩
theorem qTr_k {t : Nat} {M M' : pm_M} {d : qD} (h : qTr t M d) (e0 : ∀ k, k ∈ [22, 23, 28] → M'.1 49 k = M.1 49 k) (e1 : ∀ b, b ∈ [30, 31, 32, 33, 34, 35, 66, 67, 68, 69] → M'.1 b = M.1 b) : qTr t M' d := by
  unfold qTr
  rw [e0 22 (by decide), e0 23 (by decide), e0 28 (by decide), e1 30 (by decide), e1 32 (by decide), e1 66 (by decide), e1 35 (by decide), e1 69 (by decide)]
  obtain ⟨h0, h⟩ := h
  refine ⟨h0, ?_⟩
  rcases h with h | ⟨h1, h2, h3, h4, h5, X, h6, h7, h8, h9⟩
  · exact Or.inl h
  · exact Or.inr ⟨h1, h2, h3, h4, h5, X, xC0_of h6 (fun b hb => e1 b (by revert b; decide)) (by rw [e1 30 (by decide)]), xM0_of h7 (fun b hb => e1 b (by revert b; decide)), h8, h9⟩
theorem qTp_k {M M' : pm_M} (h : qTp M) (e0 : M'.1 49 9 = M.1 49 9) (e1 : M'.1 37 = M.1 37) (e2 : M'.1 38 = M.1 38) (e3 : M'.1 56 = M.1 56) : qTp M' := by
  unfold qTp
  rw [e0, e1, e2, e3]
  exact h
theorem qSj_k {M M' : pm_M} {j : Nat} (h : qSj M j) (e1 : M'.1 (40 + 2 * j) = M.1 (40 + 2 * j)) (e2 : M'.1 78 j = M.1 78 j) (e3 : M'.1 79 j = M.1 79 j) (e4 : M'.2 (41 + 2 * j) = M.2 (41 + 2 * j)) (e5 : ∀ k, k < 40 → M'.2 80 (40 * j + k) = M.2 80 (40 * j + k)) : qSj M' j := by
  unfold qSj
  obtain ⟨n, h1, h2, h3, h4, h5, h6⟩ := h
  refine ⟨n, h1, by rw [e1]; exact h2, by rw [e3]; exact h3, by rw [e1, e2]; exact h4, by rw [e2]; exact h5, fun k hk => by rw [e4, e5 k hk]; exact h6 k hk⟩
theorem qSh_k {M M' : pm_M} (h : qSh M) (e1 : ∀ b, b ∈ [40, 42, 44, 46, 78, 79] → M'.1 b = M.1 b) (e2 : ∀ b, b ∈ [41, 43, 45, 47, 80] → M'.2 b = M.2 b) : qSh M' := by
  intro j hj
  have k1 : 40 + 2 * j ∈ [40, 42, 44, 46, 78, 79] := by
    match j, hj with
    | 0, _ => decide
    | 1, _ => decide
    | 2, _ => decide
    | 3, _ => decide
    | k + 4, h => omega
  have k2 : 41 + 2 * j ∈ [41, 43, 45, 47, 80] := by
    match j, hj with
    | 0, _ => decide
    | 1, _ => decide
    | 2, _ => decide
    | 3, _ => decide
    | k + 4, h => omega
  exact qSj_k (h j hj) (e1 _ k1) (by rw [e1 78 (by decide)]) (by rw [e1 79 (by decide)]) (e2 _ k2) (fun k _ => by rw [e2 80 (by decide)])
/-- a call that only asks keeps it all -/
theorem qInv_scr {t : Nat} {M M' : pm_M} (h : qInv t M) (s : qScr M M') : qInv t M' := by
  obtain ⟨d, h1, h2, h3, h4, h5, h6, h7⟩ := h
  refine ⟨d, qNet_scr h1 s, qLk_k h2 (by rw [s.1 23 (by decide)]) (s.1 29 (by decide)), qPy_k h3 (s.2 7 (by decide)) (s.2 55 (by decide)), qKp_k h4 (by rw [s.1 49 (by decide)]) (fun b hb => s.1 b (by revert b; decide)) (s.2 14 (by decide)) (s.2 77 (by decide)), qTr_k h5 (fun k _ => by rw [s.1 49 (by decide)]) (fun b hb => s.1 b (by revert b; decide)), qTp_k h6 (by rw [s.1 49 (by decide)]) (s.1 37 (by decide)) (s.1 38 (by decide)) (s.1 56 (by decide)), qSh_k h7 (fun b hb => s.1 b (by revert b; decide)) (fun b hb => s.2 b (by revert b; decide))⟩
/-- both sides answer alike, and it holds behind them -/
def qBo {α : Type} (t : Nat) (f g : pm_M → Option (α × pm_M)) (M : pm_M) : Prop := ∃ v M1 M2, f M = some (v, M1) ∧ g M1 = some (v, M2) ∧ qInv t M2
theorem qBo_pur {t : Nat} {α : Type} {f g : pm_M → Option (α × pm_M)} {M : pm_M} (h : qInv t M) (p : qPur f g M) : qBo t f g M := by
  obtain ⟨v, M1, M2, e1, e2, s⟩ := p
  exact ⟨v, M1, M2, e1, e2, qInv_scr h s⟩
theorem I_constant {t : Nat} {M : pm_M} (h : qInv t M) (a b c e : Int32) : qBo t (sC_constant a b c e) (sR_constant a b c e) M := by
  obtain ⟨d, h1, -⟩ := id h
  exact qBo_pur h (P_constant h1 a b c e)
theorem I_rate {t : Nat} {M : pm_M} (h : qInv t M) (a b c : Int32) : qBo t (sC_rate a b c) (sR_rate a b c) M := by
  obtain ⟨d, h1, -⟩ := id h
  exact qBo_pur h (P_rate h1 a b c)
theorem I_mean {t : Nat} {M : pm_M} (h : qInv t M) (a b c e : Int32) : qBo t (sC_mean a b c e) (sR_mean a b c e) M := by
  obtain ⟨d, h1, -⟩ := id h
  exact qBo_pur h (P_mean h1 a b c e)
theorem I_busy {t : Nat} {M : pm_M} (h : qInv t M) (a b : Int32) : qBo t (sC_busy a b) (sR_busy a b) M := by
  obtain ⟨d, h1, -⟩ := id h
  exact qBo_pur h (P_busy h1 a b)
theorem I_narrow {t : Nat} {M : pm_M} (h : qInv t M) : qBo t sC_narrow sR_narrow M := by
  obtain ⟨d, h1, -⟩ := id h
  exact qBo_pur h (P_narrow h1)
theorem I_swift {t : Nat} {M : pm_M} (h : qInv t M) (a : Int32) : qBo t (sC_swift a) (sR_swift a) M := by
  obtain ⟨d, h1, h2, h3, h4, h5, h6, h7⟩ := id h
  obtain ⟨v, M1, M2, e1, e2, s⟩ := P_swift h1 a
  rcases s with s | ⟨s1, s2, s3, s4⟩
  · exact ⟨v, M1, M2, e1, e2, qInv_scr h s⟩
  · obtain ⟨n1, n2, n3, n4, n5, n6⟩ := h1
    refine ⟨v, M1, M2, e1, e2, d, ⟨n1, qC_of n2 (fun b hb => s1 b (by revert b; decide)), qR_of n3 (by rw [s1 49 (by decide)]) (fun b b1 b2 => s1 b ?_), qTo_of n4 (fun b b1 b2 => s1 b ?_) (fun b b1 b2 => s2 b ?_), s3, fun k hk => by rw [s2 61 (by decide)]; exact n6 k hk⟩, Or.inl s4, qPy_k h3 (s2 7 (by decide)) (s2 55 (by decide)), qKp_k h4 (by rw [s1 49 (by decide)]) (fun b hb => s1 b (by revert b; decide)) (s2 14 (by decide)) (s2 77 (by decide)), qTr_k h5 (fun k _ => by rw [s1 49 (by decide)]) (fun b hb => s1 b (by revert b; decide)), qTp_k h6 (by rw [s1 49 (by decide)]) (s1 37 (by decide)) (s1 38 (by decide)) (s1 56 (by decide)), qSh_k h7 (fun b hb => s1 b (by revert b; decide)) (fun b hb => s2 b (by revert b; decide))⟩
    · have : ∀ b, b < 55 → 50 ≤ b → b ∉ 23 :: 24 :: scI := by decide
      exact this b (by omega) b1
    · have : ∀ b, b < 19 → 16 ≤ b → b ∉ 23 :: 24 :: scI := by decide
      exact this b (by omega) b1
    · have : ∀ b, b < 21 → 19 ≤ b → b ∉ 25 :: scL := by decide
      exact this b (by omega) b1
theorem I_likely {t : Nat} {M : pm_M} (h : qInv t M) (a b : Int32) : qBo t (sC_likely a b) (sR_likely a b) M := by
  obtain ⟨d, h1, h2, h3, h4, h5, h6, h7⟩ := id h
  obtain ⟨hd, hC, hR, hT, hSt, hF⟩ := id h1
  have hS := hd.1
  by_cases i1 : pm_in a 2
  case neg =>
    refine ⟨-2, M, M, ?_, ?_, h⟩
    · unfold sC_likely
      rw [C_isClass, q_bd, b2i_f i1, if_pos rfl]
    · unfold sR_likely
      rw [R_isPart, q_bd, b2i_f i1, if_pos rfl]
  by_cases i2 : pm_in b (qS d)
  case neg =>
    refine ⟨-2, M, M, ?_, ?_, h⟩
    · unfold sC_likely
      rw [C_isClass, q_bd, b2i_t i1, if_neg (by decide), Net_hasStation hd hC, q_bd, b2i_f i2, if_neg (fun q => q rfl)]
    · unfold sR_likely
      rw [R_isPart, q_bd, b2i_t i1, if_neg (by decide), R_isStation hd hR, q_bd, b2i_f i2, if_neg (fun q => q rfl)]
  by_cases hs : qsnd d
  case neg =>
    obtain ⟨N, e, f, -, -, -⟩ := R_snd2 h1
    refine ⟨-3, M, N, ?_, ?_, qInv_scr h (qScr_L f (by decide))⟩
    · unfold sC_likely
      rw [C_isClass, q_bd, b2i_t i1, if_neg (by decide), Net_hasStation hd hC, q_bd, b2i_t i2, if_pos (by decide), Tours_isSound hT, q_bd, q2i_f hs, if_neg (fun q => q rfl)]
    · unfold sR_likely
      rw [R_isPart, q_bd, b2i_t i1, if_neg (by decide), R_isStation hd hR, q_bd, b2i_t i2, if_pos (by decide), e, q_bd, q2i_f hs, if_neg (fun q => q rfl)]
  obtain ⟨c, hc, -, rfl⟩ := pm_kx i1
  obtain ⟨s, hsS, -, rfl⟩ := pm_kx i2
  obtain ⟨M1, e1, f1, f2, f3, f4, f5⟩ := States_likeliestAt hd hs hSt h2 hc hsS
  have hN1 : qNet M1 d := ⟨hd, qC_of hC (fun b hb => f1 b (by omega) (by omega) (by omega)), qR_of hR (by rw [f1 49 (by decide) (by decide) (by decide)]) (fun b b1 b2 => f1 b (by omega) (by omega) (by omega)), qTo_of hT (fun b b1 b2 => f1 b (by omega) (by omega) (by omega)) (fun b b1 b2 => f2 b (by omega)), qSt_of hSt (fun k hk => f3 k (by omega)) (f1 24 (by decide) (by decide) (by decide)) (f2 25 (by decide)), fun k hk => by rw [f2 61 (by decide)]; exact hF k hk⟩
  have hI1 : qInv t M1 := ⟨d, hN1, Or.inr ⟨f4, f5⟩, qPy_k h3 (f2 7 (by decide)) (f2 55 (by decide)), qKp_k h4 (by rw [f1 49 (by decide) (by decide) (by decide)]) (fun b hb => f1 b (by revert b; decide) (by revert b; decide) (by revert b; decide)) (f2 14 (by decide)) (f2 77 (by decide)), qTr_k h5 (fun k _ => by rw [f1 49 (by decide) (by decide) (by decide)]) (fun b hb => f1 b (by revert b; decide) (by revert b; decide) (by revert b; decide)), qTp_k h6 (by rw [f1 49 (by decide) (by decide) (by decide)]) (f1 37 (by decide) (by decide) (by decide)) (f1 38 (by decide) (by decide) (by decide)) (f1 56 (by decide) (by decide) (by decide)), qSh_k h7 (fun b hb => f1 b (by revert b; decide) (by revert b; decide) (by revert b; decide)) (fun b hb => f2 b (by revert b; decide))⟩
  obtain ⟨N, e, f, r1, r2, r3⟩ := R_snd2 hN1
  obtain ⟨N', e', g1, g2, g3⟩ := R_likeliest hd hs r1 r2 (r3 hs).1
  refine ⟨nI ((qbe d).2 (5 * c + s)), M1, N', ?_, ?_, qInv_scr hI1 (qScr_tr (qScr_L f (by decide)) ⟨fun b hb => g1 b (fun q => hb (by rw [q]; decide)) (fun q => hb (by rw [q]; decide)), fun b hb => g2 b (fun q => hb (by rw [q]; decide))⟩)⟩
  · unfold sC_likely
    rw [C_isClass, q_bd, b2i_t i1, if_neg (by decide), Net_hasStation hd hC, q_bd, b2i_t i2, if_pos (by decide), Tours_isSound hT, q_bd, q2i_t hs, if_pos (by decide), e1, q_bd]
  · unfold sR_likely
    rw [R_isPart, q_bd, b2i_t i1, if_neg (by decide), R_isStation hd hN1.2.2.1, q_bd, b2i_t i2, if_pos (by decide), e, q_bd, q2i_t hs, if_pos (by decide), e', q_bv, qcs, if_pos (by rw [nI_in_iff (by omega)]; omega), nI_cl _ (by omega), g3 c s hc hsS]
