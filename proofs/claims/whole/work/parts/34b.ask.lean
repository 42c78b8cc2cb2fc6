/-! TELLING AND ASKING, both sides -/
theorem qBo_tell {t : Nat} {f g : pm_M → Option (Int32 × pm_M)} {r : Int32 × Option qD} {M : pm_M} {d : qD} (hN : qNet M d) (hP : qPy M) (hK : qKp M) (hT : qTr t M d) (hTp : qTp M) (hSh : qSh M) (hL : qLk M d) (hf : qCe f r M) (hg : ∀ M1, qR M1 d → qRe g r M1) : qBo t f g M := by
  obtain ⟨M1, e1, k1⟩ := hf
  obtain ⟨v, o⟩ := r
  cases o with
  | none =>
    have k1' : M1 = M := k1
    subst k1'
    obtain ⟨M2, e2, k2⟩ := hg M1 hN.2.2.1
    have k2' : M2 = M1 := k2
    subst k2'
    exact ⟨v, M2, M2, e1, e2, d, hN, hL, hP, hK, hT, hTp, hSh⟩
  | some d' =>
    obtain ⟨hd', c0, c1, c2, c3, c4, c5, c6, c7, c8, c9, c10, c11⟩ := k1
    have hR1 : qR M1 d := qR_of hN.2.2.1 (by rw [c1 49 (by decide)]) (fun b b1 b2 => c1 b (by simp only [List.mem_cons, List.not_mem_nil, or_false, not_or]; omega))
    obtain ⟨M2, e2, k2⟩ := hg M1 hR1
    have k2' : qRt d' M1 M2 := k2
    obtain ⟨r0, r1, r2, r3, r4, r5, r6, r7⟩ := k2'
    have i1 : ∀ b, b ∉ [1, 2, 3, 4, 5, 6, 16, 17, 18, 21, 23, 24, 30, 32, 35, 49, 50, 51, 52, 53, 54, 66, 69] → M2.1 b = M.1 b := fun b hb => by
      simp only [List.mem_cons, List.not_mem_nil, or_false, not_or] at hb
      rw [r1 b (by simp only [List.mem_cons, List.not_mem_nil, or_false, not_or]; omega), c1 b (by simp only [List.mem_cons, List.not_mem_nil, or_false, not_or]; omega)]
    have i2 : ∀ b, b ∉ [19, 20, 22, 25] → M2.2 b = M.2 b := fun b hb => by rw [r2, c2 b hb]
    have i3 : ∀ k, k ≠ 1 → k ≠ 22 → k ≠ 23 → M2.1 49 k = M.1 49 k := fun k a b c => by rw [r5 k a b c, c1 49 (by decide)]
    have s1 : ∀ b, b ∉ [49, 50, 51, 52, 53, 54, 66, 69] → M2.1 b = M1.1 b := r1
    refine ⟨v, M1, M2, e1, e2, d', ⟨hd', qC_of c0 (fun b hb => s1 b (by simp only [List.mem_cons, List.not_mem_nil, or_false, not_or]; omega)), r0, qTo_of c3 (fun b b1 b2 => s1 b (by simp only [List.mem_cons, List.not_mem_nil, or_false, not_or]; omega)) (fun b b1 b2 => by rw [r2]), qSt_of c4 (fun k _ => by rw [s1 23 (by decide)]) (s1 24 (by decide)) (by rw [r2]), fun k hk => by rw [i2 61 (by decide)]; exact hN.2.2.2.2.2 k hk⟩, Or.inl (by rw [s1 23 (by decide)]; exact c5), qPy_k hP (i2 7 (by decide)) (i2 55 (by decide)), qKp_k hK (i3 32 (by decide) (by decide) (by decide)) (fun b hb => i1 b (by revert b; decide)) (i2 14 (by decide)) (i2 77 (by decide)), ⟨?_, Or.inl ⟨by rw [s1 30 (by decide)]; exact c6, by rw [s1 30 (by decide)]; exact c7, by rw [s1 30 (by decide)]; exact c8, r3, r4, fun k hk => ⟨by rw [s1 32 (by decide)]; exact c10 k hk, r6 k hk⟩, fun k hk => ⟨by rw [s1 35 (by decide)]; exact c11 k hk, r7 k hk⟩⟩⟩, qTp_k hTp (i3 9 (by decide) (by decide) (by decide)) (i1 37 (by decide)) (i1 38 (by decide)) (i1 56 (by decide)), qSh_k hSh (fun b hb => i1 b (by revert b; decide)) (fun b hb => i2 b (by revert b; decide))⟩
    rw [s1 30 (by decide), c9 4 (by decide) (by decide) (by decide), i3 28 (by decide) (by decide) (by decide)]
    exact hT.1
theorem I_station {t : Nat} {M : pm_M} (h : qInv t M) (a b c : Int32) : qBo t (sC_station a b c) (sR_station a b c) M := by
  obtain ⟨d, h1, h2, h3, h4, h5, h6, h7⟩ := h
  exact qBo_tell h1 h3 h4 h5 h6 h7 h2 (C_station h1.1 h1.2.1 a b c) (fun M1 hR => R_station h1.1 hR a b c)
theorem I_time {t : Nat} {M : pm_M} (h : qInv t M) (a b c : Int32) : qBo t (sC_time a b c) (sR_time a b c) M := by
  obtain ⟨d, h1, h2, h3, h4, h5, h6, h7⟩ := h
  exact qBo_tell h1 h3 h4 h5 h6 h7 h2 (C_time h1.1 h1.2.1 a b c) (fun M1 hR => R_time h1.1 hR a b c)
theorem I_becomes {t : Nat} {M : pm_M} (h : qInv t M) (a b : Int32) : qBo t (sC_becomes a b) (sR_becomes a b) M := by
  obtain ⟨d, h1, h2, h3, h4, h5, h6, h7⟩ := h
  exact qBo_tell h1 h3 h4 h5 h6 h7 h2 (C_becomes h1.1 h1.2.1 a b) (fun M1 hR => R_becomes h1.1 hR a b)
theorem I_route {t : Nat} {M : pm_M} (h : qInv t M) (a b c e : Int32) : qBo t (sC_route a b c e) (sR_route a b c e) M := by
  obtain ⟨d, h1, h2, h3, h4, h5, h6, h7⟩ := h
  exact qBo_tell h1 h3 h4 h5 h6 h7 h2 (C_route h1.1 h1.2.1 a b c e) (fun M1 hR => R_route h1.1 hR a b c e)
theorem I_home {t : Nat} {M : pm_M} (h : qInv t M) (a b : Int32) : qBo t (sC_home a b) (sR_home a b) M := by
  obtain ⟨d, h1, h2, h3, h4, h5, h6, h7⟩ := h
  exact qBo_tell h1 h3 h4 h5 h6 h7 h2 (C_home h1.1 h1.2.1 a b) (fun M1 hR => R_home h1.1 hR a b)
theorem I_parts {t : Nat} {M : pm_M} (h : qInv t M) (a b : Int32) : qBo t (sC_parts a b) (sR_parts a b) M := by
  obtain ⟨d, h1, h2, h3, h4, h5, h6, h7⟩ := h
  exact qBo_tell h1 h3 h4 h5 h6 h7 h2 (C_parts h1.1 h1.2.1 a b) (fun M1 hR => R_parts h1.1 hR a b)
theorem I_sound {t : Nat} {M : pm_M} (h : qInv t M) : qBo t sC_sound sR_sound M := by
  obtain ⟨d, h1, -⟩ := id h
  obtain ⟨N, e, f, -, -, -⟩ := R_snd2 h1
  refine qBo_pur h ⟨q2i (qsnd d), M, N, ?_, ?_, qScr_L f (by decide)⟩
  · unfold sC_sound
    rw [Tours_isSound h1.2.2.2.1, q_bd]
    by_cases z : qsnd d
    · rw [q2i_t z, if_neg (by decide)]
    · rw [q2i_f z, if_pos rfl]
  · unfold sR_sound
    rw [e, q_bd]
    by_cases z : qsnd d
    · rw [q2i_t z, if_neg (by decide)]
    · rw [q2i_f z, if_pos rfl]
theorem I_visits {t : Nat} {M : pm_M} (h : qInv t M) (a b w : Int32) : qBo t (sC_visits a b w) (sR_visits a b w) M := by
  obtain ⟨d, h1, -⟩ := id h
  obtain ⟨hd, hC, hR, hT, hSt, hF⟩ := id h1
  have hS := hd.1
  refine qBo_pur h ?_
  by_cases i1 : pm_in a 2
  case neg =>
    refine ⟨qNO, M, M, ?_, ?_, qScr_rf⟩
    · unfold sC_visits
      rw [C_isClass, q_bd, b2i_f i1, if_pos rfl]
      rfl
    · unfold sR_visits
      rw [R_isPart, q_bd, b2i_f i1, if_pos rfl]
      rfl
  by_cases i2 : pm_in b (qS d)
  case neg =>
    refine ⟨qNO, M, M, ?_, ?_, qScr_rf⟩
    · unfold sC_visits
      rw [C_isClass, q_bd, b2i_t i1, if_neg (by decide), Net_hasStation hd hC, q_bd, b2i_f i2, if_pos rfl]
      rfl
    · unfold sR_visits
      rw [R_isPart, q_bd, b2i_t i1, if_neg (by decide), R_isStation hd hR, q_bd, b2i_f i2, if_pos rfl]
      rfl
  by_cases i3 : pm_in w 2
  case neg =>
    refine ⟨qNO, M, M, ?_, ?_, qScr_rf⟩
    · unfold sC_visits
      rw [C_isClass, q_bd, b2i_t i1, if_neg (by decide), Net_hasStation hd hC, q_bd, b2i_t i2, if_neg (by decide)]
      by_cases z : w < 0
      · rw [if_pos z]; rfl
      · rw [if_neg z, if_neg (Int32.not_le.mpr (show (1 : Int32) < w from pm_hi (n := 1) (by omega) i3 z))]; rfl
    · unfold sR_visits
      rw [R_isPart, q_bd, b2i_t i1, if_neg (by decide), R_isStation hd hR, q_bd, b2i_t i2, if_neg (by decide), R_in01, q_bd, b2i_f i3, if_pos rfl]
      rfl
  obtain ⟨c, hc, -, rfl⟩ := pm_kx i1
  obtain ⟨s, hs, -, rfl⟩ := pm_kx i2
  obtain ⟨w, hw, -, rfl⟩ := pm_kx i3
  have hvl := qvi_le hd hc s
  have htl := qtm_le hd c s
  by_cases hg : qgo d c
  · refine ⟨nL (if w = 0 then qvi d c s else qde d c s), M, mu_L M 59 (qro (M.2 59) c (qvi d c) 5), ?_, ?_, qScr_L (l := [59]) (qfL_u (by decide)) (by decide)⟩
    · unfold sC_visits
      rw [C_isClass, q_bd, b2i_t i1, if_neg (by decide), Net_hasStation hd hC, q_bd, b2i_t i2, if_neg (by decide), if_neg (nI_nneg (by omega)), if_pos (by rw [q1, nI_le_iff (by omega) (by omega)]; omega), if_pos i1, nI_cl c (by omega), (hT c hc).2.1, q2i_t hg, if_pos (by decide)]
      by_cases z : w = 0
      · rw [if_neg (fun q => q ((nI_c0 hw).mpr z)), if_pos z, Tours_visitsOf hT hc hs hS, q_bd]
      · rw [if_pos (fun q => z ((nI_c0 hw).mp q)), if_neg z, Tours_demandOf hT hc hs hS, q_bd]
    · unfold sR_visits
      rw [R_isPart, q_bd, b2i_t i1, if_neg (by decide), R_isStation hd hR, q_bd, b2i_t i2, if_neg (by decide), R_in01, q_bd, b2i_t i3, if_neg (by decide), R_goesRound hd hR hc, q_bd, q2i_t hg, if_pos (by decide), R_visit hd hR hc hg, q_bv, qcs, if_pos (by rw [nI_in_iff (by omega)]; omega), nI_cl _ (by omega), uL_a, qro_at _ _ _ (by omega), q_lt]
      by_cases z : w = 0
      · rw [if_neg (fun q => q ((nI_c0 hw).mpr z)), if_pos z]
      · rw [if_pos (fun q => z ((nI_c0 hw).mp q)), if_neg z, R_timeOf (qR_2 hR _ _) hd hc (by omega), q_bd, nI_toL (by omega), nL_mul]
        rfl
  · refine ⟨qNO, M, M, ?_, ?_, qScr_rf⟩
    · unfold sC_visits
      rw [C_isClass, q_bd, b2i_t i1, if_neg (by decide), Net_hasStation hd hC, q_bd, b2i_t i2, if_neg (by decide), if_neg (nI_nneg (by omega)), if_pos (by rw [q1, nI_le_iff (by omega) (by omega)]; omega), if_pos i1, nI_cl c (by omega), (hT c hc).2.1, q2i_f hg, if_neg (fun q => q rfl)]
      rfl
    · unfold sR_visits
      rw [R_isPart, q_bd, b2i_t i1, if_neg (by decide), R_isStation hd hR, q_bd, b2i_t i2, if_neg (by decide), R_in01, q_bd, b2i_t i3, if_neg (by decide), R_goesRound hd hR hc, q_bd, q2i_f hg, if_neg (fun q => q rfl)]
      rfl
theorem I_of {t : Nat} {M : pm_M} (h : qInv t M) (a w : Int32) : qBo t (sC_of a w) (sR_of a w) M := by
  obtain ⟨d, h1, -⟩ := id h
  obtain ⟨hd, hC, hR, hT, hSt, hF⟩ := id h1
  refine qBo_pur h ?_
  by_cases i1 : pm_in a 2
  case neg =>
    refine ⟨-2, M, M, ?_, ?_, qScr_rf⟩
    · unfold sC_of
      rw [C_isClass, q_bd, b2i_f i1, if_neg (fun q => q rfl)]
    · unfold sR_of
      rw [R_isPart, q_bd, b2i_f i1, if_neg (fun q => q rfl)]
  obtain ⟨c, hc, -, rfl⟩ := pm_kx i1
  have eC : sC_of (nI c) w M = (if w = Int32.ofNat 0 then some (hI (qH d c), M) else if w = Int32.ofNat 1 then some (nI (qP d c), M) else if w = Int32.ofNat 2 then some (q2i (qgo d c), M) else if w = Int32.ofNat 3 then some (nI (qrc d c), M) else some (-2, M)) := by
    unfold sC_of
    rw [C_isClass, q_bd, b2i_t i1, if_pos (by decide), if_pos i1, if_pos i1, if_pos i1, if_pos i1, nI_cl c (by omega), hC.2.2.2.1, hC.2.2.2.2.1, (hT c hc).1, (hT c hc).2.1]
    by_cases z : qgo d c
    · rw [q2i_t z, if_neg (show ¬ (1 : Int32) = 0 by decide)]
    · rw [q2i_f z, if_pos (show (0 : Int32) = 0 from rfl)]
  have eR : sR_of (nI c) w M = (if w = Int32.ofNat 0 then some (hI (qH d c), M) else if w = Int32.ofNat 1 then some (nI (qP d c), M) else if w = Int32.ofNat 2 then some (q2i (qgo d c), M) else if w = Int32.ofNat 3 then some (nI (qrc d c), M) else some (-2, M)) := by
    unfold sR_of
    rw [R_isPart, q_bd, b2i_t i1, if_pos (by decide), if_pos i1, if_pos i1, nI_cl c (by omega), hR.2.2.2.1, hR.2.2.2.2.1, R_goesRound hd hR hc, q_bd, R_reached hd hR hc, q_bd]
    by_cases z : qgo d c
    · rw [q2i_t z, if_neg (show ¬ (1 : Int32) = 0 by decide)]
    · rw [q2i_f z, if_pos (show (0 : Int32) = 0 from rfl)]
  by_cases w0 : w = Int32.ofNat 0
  · exact ⟨_, M, M, by rw [eC, if_pos w0], by rw [eR, if_pos w0], qScr_rf⟩
  by_cases w1 : w = Int32.ofNat 1
  · exact ⟨_, M, M, by rw [eC, if_neg w0, if_pos w1], by rw [eR, if_neg w0, if_pos w1], qScr_rf⟩
  by_cases w2 : w = Int32.ofNat 2
  · exact ⟨_, M, M, by rw [eC, if_neg w0, if_neg w1, if_pos w2], by rw [eR, if_neg w0, if_neg w1, if_pos w2], qScr_rf⟩
  by_cases w3 : w = Int32.ofNat 3
  · exact ⟨_, M, M, by rw [eC, if_neg w0, if_neg w1, if_neg w2, if_pos w3], by rw [eR, if_neg w0, if_neg w1, if_neg w2, if_pos w3], qScr_rf⟩
  exact ⟨_, M, M, by rw [eC, if_neg w0, if_neg w1, if_neg w2, if_neg w3], by rw [eR, if_neg w0, if_neg w1, if_neg w2, if_neg w3], qScr_rf⟩
theorem I_told {t : Nat} {M : pm_M} (h : qInv t M) (a w : Int32) : qBo t (sC_told a w) (sR_told a w) M := by
  obtain ⟨d, h1, -⟩ := id h
  obtain ⟨hd, hC, hR, hT, hSt, hF⟩ := id h1
  have hS := hd.1
  refine qBo_pur h ?_
  by_cases i1 : pm_in a (qS d)
  case neg =>
    refine ⟨-2, M, M, ?_, ?_, qScr_rf⟩
    · unfold sC_told
      rw [Net_hasStation hd hC, q_bd, b2i_f i1, if_pos rfl]
    · unfold sR_told
      rw [R_isStation hd hR, q_bd, b2i_f i1, if_pos rfl]
  by_cases i2 : pm_in w 3
  case neg =>
    refine ⟨-2, M, M, ?_, ?_, qScr_rf⟩
    · unfold sC_told
      rw [Net_hasStation hd hC, q_bd, b2i_t i1, if_neg (by decide)]
      by_cases z : w < 0
      · rw [if_pos z]
      · rw [if_neg z, if_neg (Int32.not_le.mpr (show (2 : Int32) < w from pm_hi (n := 2) (by omega) i2 z))]
    · unfold sR_told
      rw [R_isStation hd hR, q_bd, b2i_t i1, if_neg (by decide), R_in02, q_bd, b2i_f i2, if_neg (fun q => q rfl)]
  obtain ⟨s, hs, -, rfl⟩ := pm_kx i1
  obtain ⟨w, hw, -, rfl⟩ := pm_kx i2
  have w0 : nI w = 0 ↔ w = 0 := by rw [q0, nI_inj (by omega) (by omega)]
  have hin5 : pm_in (nI s) 5 := by rw [nI_in_iff (by omega)]; omega
  refine ⟨nI (if w = 0 then qK d s else qT d (5 * (w - 1) + s)), M, M, ?_, ?_, qScr_rf⟩
  · unfold sC_told
    rw [Net_hasStation hd hC, q_bd, b2i_t i1, if_neg (by decide), if_neg (nI_nneg (by omega)), if_pos (by rw [q2, nI_le_iff (by omega) (by omega)]; omega)]
    by_cases z : w = 0
    · rw [if_neg (fun q => q (w0.mpr z)), if_pos z, if_pos hin5, nI_cl s (by omega), hC.2.1]
    · rw [if_pos (fun q => z (w0.mp q)), if_neg z, q1, nI_sub (by omega), qcs', if_pos (by rw [nI_in_iff (by omega)]; omega), nI_cl _ (by omega), hC.2.2.1]
  · unfold sR_told
    rw [R_isStation hd hR, q_bd, b2i_t i1, if_neg (by decide), R_in02, q_bd, b2i_t i2, if_pos (by decide)]
    by_cases z : w = 0
    · rw [if_neg (fun q => q (w0.mpr z)), if_pos z, if_pos hin5, nI_cl s (by omega), hR.2.1]
    · rw [if_pos (fun q => z (w0.mp q)), if_neg z, q1, nI_sub (by omega), qcs, if_pos (by rw [nI_in_iff (by omega)]; omega), nI_cl _ (by omega), hR.2.2.1]
theorem I_pay {t : Nat} {M : pm_M} (h : qInv t M) (a : Int32) (v : Int64) : qBo t (sC_pay a v) (sR_pay a v) M := by
  obtain ⟨d, h1, h2, h3, h4, h5, h6, h7⟩ := id h
  obtain ⟨hd, hC, hR, hT, hSt, hF⟩ := id h1
  by_cases i1 : pm_in a 2
  case neg =>
    refine ⟨qNO, M, M, ?_, ?_, h⟩
    · unfold sC_pay
      rw [C_isClass, q_bd, b2i_f i1, if_neg (fun q => q rfl)]
      rfl
    · unfold sR_pay
      rw [R_isPart, q_bd, b2i_f i1, if_neg (fun q => q rfl)]
      rfl
  have i1' := i1
  obtain ⟨c, hc, -, rfl⟩ := pm_kx i1
  have e7 : (pm_sL M 7 c v).2 55 c = M.2 7 c := by rw [sL_2, if_neg (by decide)]; exact (h3 c hc).symm
  refine ⟨M.2 7 c, pm_sL M 7 c v, pm_sL (pm_sL M 7 c v) 55 c v, ?_, ?_, d, ?_⟩
  · unfold sC_pay
    rw [C_isClass, q_bd, b2i_t i1', if_pos (by decide), if_pos i1', q_lt, if_pos i1', q_lt, nI_cl c (by omega)]
  · unfold sR_pay
    rw [R_isPart, q_bd, b2i_t i1', if_pos (by decide), if_pos i1', q_lt, if_pos i1', q_lt, nI_cl c (by omega), e7]
  have o : ∀ b, b ≠ 7 → b ≠ 55 → (pm_sL (pm_sL M 7 c v) 55 c v).2 b = M.2 b := fun b hb hb2 => by rw [sL_2, if_neg hb2, sL_2, if_neg hb]
  refine ⟨⟨hd, hC, hR, qTo_of hT (fun _ _ _ => rfl) (fun b b1 b2 => o b (by omega) (by omega)), qSt_of hSt (fun _ _ => rfl) rfl (o 25 (by decide) (by decide)), fun k hk => by rw [o 61 (by decide) (by decide)]; exact hF k hk⟩, qLk_k h2 rfl rfl, fun c' hc' => ?_, qKp_k h4 rfl (fun _ _ => rfl) (o 14 (by decide) (by decide)) (o 77 (by decide) (by decide)), qTr_k h5 (fun _ _ => rfl) (fun _ _ => rfl), qTp_k h6 rfl rfl rfl rfl, qSh_k h7 (fun _ _ => rfl) (fun b hb => o b (by revert b; decide) (by revert b; decide))⟩
  rw [sL_2, if_neg (by decide), sL_2, if_pos rfl, sL_2, if_pos rfl, sL_2, if_neg (by decide)]
  unfold vp_updL
  by_cases q : c' = c
  · rw [if_pos q, if_pos q]
  · rw [if_neg q, if_neg q]
    exact h3 c' hc'
theorem I_seed {t : Nat} {M : pm_M} (h : qInv t M) (a : Int32) : qBo t (sC_seed a) (sR_seed a) M := by
  obtain ⟨d, h1, h2, h3, h4, h5, h6, h7⟩ := id h
  obtain ⟨hd, hC, hR, hT, hSt, hF⟩ := id h1
  have o : ∀ b, b ≠ 30 → b ≠ 49 → (pm_sI (pm_sI M 30 4 a) 49 28 a).1 b = M.1 b := fun b hb hb2 => by rw [sI_1, if_neg hb2, sI_1, if_neg hb]
  have o49 : ∀ k, k ≠ 28 → (pm_sI (pm_sI M 30 4 a) 49 28 a).1 49 k = M.1 49 k := fun k hk => by
    rw [sI_1, if_pos rfl]
    unfold upd
    rw [if_neg hk, sI_1, if_neg (by decide)]
  have o30 : ∀ k, k ≠ 4 → (pm_sI (pm_sI M 30 4 a) 49 28 a).1 30 k = M.1 30 k := fun k hk => by
    rw [sI_1, if_neg (by decide), sI_1, if_pos rfl]
    unfold upd
    rw [if_neg hk]
  have e30 : (pm_sI (pm_sI M 30 4 a) 49 28 a).1 30 4 = a := by rw [sI_1, if_neg (by decide), sI_1, if_pos rfl, upd_at]
  have e49 : (pm_sI (pm_sI M 30 4 a) 49 28 a).1 49 28 = a := by rw [sI_1, if_pos rfl, upd_at]
  refine ⟨M.1 30 4, pm_sI M 30 4 a, pm_sI (pm_sI M 30 4 a) 49 28 a, ?_, ?_, d, ⟨hd, qC_of hC (fun b hb => o b (by omega) (by omega)), qR_of hR (o49 1 (by decide)) (fun b b1 b2 => o b (by omega) (by omega)), qTo_of hT (fun b b1 b2 => o b (by omega) (by omega)) (fun _ _ _ => rfl), qSt_of hSt (fun k _ => by rw [o 23 (by decide) (by decide)]) (o 24 (by decide) (by decide)) rfl, hF⟩, qLk_k h2 (by rw [o 23 (by decide) (by decide)]) (o 29 (by decide) (by decide)), qPy_k h3 rfl rfl, qKp_k h4 (o49 32 (by decide)) (fun b hb => o b (by revert b; decide) (by revert b; decide)) rfl rfl, ⟨?_, ?_⟩, qTp_k h6 (o49 9 (by decide)) (o 37 (by decide) (by decide)) (o 38 (by decide) (by decide)) (o 56 (by decide) (by decide)), qSh_k h7 (fun b hb => o b (by revert b; decide) (by revert b; decide)) (fun _ _ => rfl)⟩
  · unfold sC_seed
    rw [q_lt, q_lt]
  · unfold sR_seed
    rw [q_lt, q_lt]
    have : (pm_sI M 30 4 a).1 49 28 = M.1 49 28 := by rw [sI_1, if_neg (by decide)]
    rw [this, ← h5.1]
  · rw [e30, e49]
  · rw [o30 0 (by decide), o30 1 (by decide), o30 3 (by decide), o49 22 (by decide), o49 23 (by decide), o 32 (by decide) (by decide), o 66 (by decide) (by decide), o 35 (by decide) (by decide), o 69 (by decide) (by decide)]
    rcases h5.2 with q | ⟨q1, q2, q3, q4, q5, X, q6, q7, q8, q9⟩
    · exact Or.inl q
    · exact Or.inr ⟨q1, q2, q3, q4, q5, X, xC0_of q6 (fun b hb => o b (by revert b; decide) (by revert b; decide)) (o30 2 (by decide)), xM0_of q7 (fun b hb => o b (by revert b; decide) (by revert b; decide)), q8, q9⟩
